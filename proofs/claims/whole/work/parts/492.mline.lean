/-! the grammar's lines; orders, both -/
abbrev LK := (Nat → Int32) × Int32 × Int32 × Int32 × (Nat → Int32) × (Nat → Int32) × (Nat → Int32) × (Nat → Int32) × (Nat → Int32) × Int32
section MLINE
variable {x : Tn} {mk fr : Nat → Int32} {va : Nat → Int64} {p : Nat} {me gd gb ge go gw : Nat → Int32} {dp od gm : Int32} {K : Int32 → LK → Prop}
theorem m_emp_F1 (wf : wfN x) (rm : rNm x mk fr va) (hp : p ≤ nN x) (h0 : kN x p = 2) (h1 : kN x (p + 1) ≠ 44) (kk : ∀ u : LK, u.2.1 = nI (p + 1) → K 0 u) : wX10_isLine mk me va (nI p) dp od gd gb ge go gw gm K := by
  have n4 := wf.1
  have lt0 := kN_lt wf (p := p) (by omega) (by omega)
  have e0 : mk (nI p).toNatClampNeg = nI (mkT 2) := by rw [nI_clamp (by omega), (rm p hp).1, h0]
  unfold wX10_isLine
  rw [e0]
  refine ⟨vp_in_nI (by omega) (by decide), br_f (by decide) (br_f (by decide) (bn_f (by decide) (bn_t (by decide) (?_))))⟩
  exact m_eat_y wf rm hp 2 h0 (br_f (by decide) (m_as_n wf rm (p := p + 1) (by omega) 44 h1 (br_t rfl (kk _ rfl))))
theorem m_emp_F2 (wf : wfN x) (rm : rNm x mk fr va) (hp : p ≤ nN x) (h0 : kN x p = 2) (h1 : kN x (p + 1) = 44) (h2 : kN x (p + 2) ≠ 3) (kk : ∀ u : LK, u.2.1 = nI (p + 2) → K 0 u) : wX10_isLine mk me va (nI p) dp od gd gb ge go gw gm K := by
  have n4 := wf.1
  have lt0 := kN_lt wf (p := p) (by omega) (by omega)
  have lt1 := kN_lt wf (p := p + 1) (by omega) (by omega)
  have e0 : mk (nI p).toNatClampNeg = nI (mkT 2) := by rw [nI_clamp (by omega), (rm p hp).1, h0]
  unfold wX10_isLine
  rw [e0]
  refine ⟨vp_in_nI (by omega) (by decide), br_f (by decide) (br_f (by decide) (bn_f (by decide) (bn_t (by decide) (?_))))⟩
  exact m_eat_y wf rm hp 2 h0 (br_f (by decide) (m_as_y wf rm (p := p + 1) (by omega) 44 h1 (br_f (by decide) (m_eat_n wf rm (p := p + 2) (by omega) 3 h2 (br_t rfl (kk _ rfl))))))
theorem m_emp_F3 (wf : wfN x) (rm : rNm x mk fr va) (hp : p ≤ nN x) (h0 : kN x p = 2) (h1 : kN x (p + 1) = 44) (h2 : kN x (p + 2) = 3) (h3 : kN x (p + 3) ≠ 45) (kk : ∀ u : LK, u.2.1 = nI (p + 3) → K 0 u) : wX10_isLine mk me va (nI p) dp od gd gb ge go gw gm K := by
  have n4 := wf.1
  have lt0 := kN_lt wf (p := p) (by omega) (by omega)
  have lt1 := kN_lt wf (p := p + 1) (by omega) (by omega)
  have lt2 := kN_lt wf (p := p + 2) (by omega) (by omega)
  have e0 : mk (nI p).toNatClampNeg = nI (mkT 2) := by rw [nI_clamp (by omega), (rm p hp).1, h0]
  unfold wX10_isLine
  rw [e0]
  refine ⟨vp_in_nI (by omega) (by decide), br_f (by decide) (br_f (by decide) (bn_f (by decide) (bn_t (by decide) (?_))))⟩
  exact m_eat_y wf rm hp 2 h0 (br_f (by decide) (m_as_y wf rm (p := p + 1) (by omega) 44 h1 (br_f (by decide) (m_eat_y wf rm (p := p + 2) (by omega) 3 h2 (br_f (by decide) (m_as_n wf rm (p := p + 3) (by omega) 45 h3 (br_t rfl (kk _ rfl))))))))
theorem m_emp_F4 (wf : wfN x) (rm : rNm x mk fr va) (hp : p ≤ nN x) (h0 : kN x p = 2) (h1 : kN x (p + 1) = 44) (h2 : kN x (p + 2) = 3) (h3 : kN x (p + 3) = 45) (h4 : kN x (p + 4) ≠ 4) (kk : ∀ u : LK, u.2.1 = nI (p + 4) → K 0 u) : wX10_isLine mk me va (nI p) dp od gd gb ge go gw gm K := by
  have n4 := wf.1
  have lt0 := kN_lt wf (p := p) (by omega) (by omega)
  have lt1 := kN_lt wf (p := p + 1) (by omega) (by omega)
  have lt2 := kN_lt wf (p := p + 2) (by omega) (by omega)
  have lt3 := kN_lt wf (p := p + 3) (by omega) (by omega)
  have e0 : mk (nI p).toNatClampNeg = nI (mkT 2) := by rw [nI_clamp (by omega), (rm p hp).1, h0]
  unfold wX10_isLine
  rw [e0]
  refine ⟨vp_in_nI (by omega) (by decide), br_f (by decide) (br_f (by decide) (bn_f (by decide) (bn_t (by decide) (?_))))⟩
  exact m_eat_y wf rm hp 2 h0 (br_f (by decide) (m_as_y wf rm (p := p + 1) (by omega) 44 h1 (br_f (by decide) (m_eat_y wf rm (p := p + 2) (by omega) 3 h2 (br_f (by decide) (m_as_y wf rm (p := p + 3) (by omega) 45 h3 (br_f (by decide) (m_eat_n wf rm (p := p + 4) (by omega) 4 h4 (br_t rfl (kk _ rfl))))))))))
theorem m_emp_F5 (wf : wfN x) (rm : rNm x mk fr va) (hp : p ≤ nN x) (h0 : kN x p = 2) (h1 : kN x (p + 1) = 44) (h2 : kN x (p + 2) = 3) (h3 : kN x (p + 3) = 45) (h4 : kN x (p + 4) = 4) (h5 : kN x (p + 5) ≠ 45) (kk : ∀ u : LK, u.2.1 = nI (p + 5) → K 0 u) : wX10_isLine mk me va (nI p) dp od gd gb ge go gw gm K := by
  have n4 := wf.1
  have lt0 := kN_lt wf (p := p) (by omega) (by omega)
  have lt1 := kN_lt wf (p := p + 1) (by omega) (by omega)
  have lt2 := kN_lt wf (p := p + 2) (by omega) (by omega)
  have lt3 := kN_lt wf (p := p + 3) (by omega) (by omega)
  have lt4 := kN_lt wf (p := p + 4) (by omega) (by omega)
  have e0 : mk (nI p).toNatClampNeg = nI (mkT 2) := by rw [nI_clamp (by omega), (rm p hp).1, h0]
  unfold wX10_isLine
  rw [e0]
  refine ⟨vp_in_nI (by omega) (by decide), br_f (by decide) (br_f (by decide) (bn_f (by decide) (bn_t (by decide) (?_))))⟩
  exact m_eat_y wf rm hp 2 h0 (br_f (by decide) (m_as_y wf rm (p := p + 1) (by omega) 44 h1 (br_f (by decide) (m_eat_y wf rm (p := p + 2) (by omega) 3 h2 (br_f (by decide) (m_as_y wf rm (p := p + 3) (by omega) 45 h3 (br_f (by decide) (m_eat_y wf rm (p := p + 4) (by omega) 4 h4 (br_f (by decide) (m_as_n wf rm (p := p + 5) (by omega) 45 h5 (br_t rfl (kk _ rfl))))))))))))
theorem m_emp_S (wf : wfN x) (rm : rNm x mk fr va) (hp : p ≤ nN x) (h0 : kN x p = 2) (h1 : kN x (p + 1) = 44) (h2 : kN x (p + 2) = 3) (h3 : kN x (p + 3) = 45) (h4 : kN x (p + 4) = 4) (h5 : kN x (p + 5) = 45) (kk : K 1 (upd (upd (upd (me) (p + 1) 3) (p + 3) 4) (p + 5) 5, nI (p + 6), dp, od, gd, gb, ge, go, gw, gm)) : wX10_isLine mk me va (nI p) dp od gd gb ge go gw gm K := by
  have n4 := wf.1
  have lt0 := kN_lt wf (p := p) (by omega) (by omega)
  have lt1 := kN_lt wf (p := p + 1) (by omega) (by omega)
  have lt2 := kN_lt wf (p := p + 2) (by omega) (by omega)
  have lt3 := kN_lt wf (p := p + 3) (by omega) (by omega)
  have lt4 := kN_lt wf (p := p + 4) (by omega) (by omega)
  have lt5 := kN_lt wf (p := p + 5) (by omega) (by omega)
  have e0 : mk (nI p).toNatClampNeg = nI (mkT 2) := by rw [nI_clamp (by omega), (rm p hp).1, h0]
  unfold wX10_isLine
  rw [e0]
  refine ⟨vp_in_nI (by omega) (by decide), br_f (by decide) (br_f (by decide) (bn_f (by decide) (bn_t (by decide) (?_))))⟩
  exact m_eat_y wf rm hp 2 h0 (br_f (by decide) (m_as_y wf rm (p := p + 1) (by omega) 44 h1 (br_f (by decide) (m_eat_y wf rm (p := p + 2) (by omega) 3 h2 (br_f (by decide) (m_as_y wf rm (p := p + 3) (by omega) 45 h3 (br_f (by decide) (m_eat_y wf rm (p := p + 4) (by omega) 4 h4 (br_f (by decide) (m_as_y wf rm (p := p + 5) (by omega) 45 h5 (br_f (by decide) (kk))))))))))))
theorem m_spring_F1 (wf : wfN x) (rm : rNm x mk fr va) (hp : p ≤ nN x) (h0 : kN x p = 7) (h1 : kN x (p + 1) ≠ 8) (kk : ∀ u : LK, u.2.1 = nI (p + 1) → K 0 u) : wX10_isLine mk me va (nI p) dp od gd gb ge go gw gm K := by
  have n4 := wf.1
  have lt0 := kN_lt wf (p := p) (by omega) (by omega)
  have e0 : mk (nI p).toNatClampNeg = nI (mkT 7) := by rw [nI_clamp (by omega), (rm p hp).1, h0]
  unfold wX10_isLine
  rw [e0]
  refine ⟨vp_in_nI (by omega) (by decide), br_f (by decide) (br_f (by decide) (bn_f (by decide) (bn_f (by decide) (bn_t (by decide) (?_)))))⟩
  exact m_as_y wf rm hp 7 h0 (br_f (by decide) (m_place_F0 wf rm (p := p + 1) (by omega) h1 (fun me' => br_t rfl (kk _ rfl))))
theorem m_spring_F2 (wf : wfN x) (rm : rNm x mk fr va) (hp : p ≤ nN x) (h0 : kN x p = 7) (h1 : kN x (p + 1) = 8) (h2 : kN x (p + 2) ≠ 45) (kk : ∀ u : LK, u.2.1 = nI (p + 2) → K 0 u) : wX10_isLine mk me va (nI p) dp od gd gb ge go gw gm K := by
  have n4 := wf.1
  have lt0 := kN_lt wf (p := p) (by omega) (by omega)
  have lt1 := kN_lt wf (p := p + 1) (by omega) (by omega)
  have e0 : mk (nI p).toNatClampNeg = nI (mkT 7) := by rw [nI_clamp (by omega), (rm p hp).1, h0]
  unfold wX10_isLine
  rw [e0]
  refine ⟨vp_in_nI (by omega) (by decide), br_f (by decide) (br_f (by decide) (bn_f (by decide) (bn_f (by decide) (bn_t (by decide) (?_)))))⟩
  exact m_as_y wf rm hp 7 h0 (br_f (by decide) (m_place_F1 wf rm (p := p + 1) (by omega) h1 h2 (fun me' => br_t rfl (kk _ rfl))))
theorem m_spring_F3 (wf : wfN x) (rm : rNm x mk fr va) (hp : p ≤ nN x) (h0 : kN x p = 7) (h1 : kN x (p + 1) = 8) (h2 : kN x (p + 2) = 45) (h3 : kN x (p + 3) ≠ 34) (kk : ∀ u : LK, u.2.1 = nI (p + 3) → K 0 u) : wX10_isLine mk me va (nI p) dp od gd gb ge go gw gm K := by
  have n4 := wf.1
  have lt0 := kN_lt wf (p := p) (by omega) (by omega)
  have lt1 := kN_lt wf (p := p + 1) (by omega) (by omega)
  have lt2 := kN_lt wf (p := p + 2) (by omega) (by omega)
  have e0 : mk (nI p).toNatClampNeg = nI (mkT 7) := by rw [nI_clamp (by omega), (rm p hp).1, h0]
  unfold wX10_isLine
  rw [e0]
  refine ⟨vp_in_nI (by omega) (by decide), br_f (by decide) (br_f (by decide) (bn_f (by decide) (bn_f (by decide) (bn_t (by decide) (?_)))))⟩
  exact m_as_y wf rm hp 7 h0 (br_f (by decide) (m_place_F2 wf rm (p := p + 1) (by omega) h1 h2 h3 (fun me' => br_t rfl (kk _ rfl))))
theorem m_spring_F4 (wf : wfN x) (rm : rNm x mk fr va) (hp : p ≤ nN x) (h0 : kN x p = 7) (h1 : kN x (p + 1) = 8) (h2 : kN x (p + 2) = 45) (h3 : kN x (p + 3) = 34) (h4 : kN x (p + 4) ≠ 45) (kk : ∀ u : LK, u.2.1 = nI (p + 4) → K 0 u) : wX10_isLine mk me va (nI p) dp od gd gb ge go gw gm K := by
  have n4 := wf.1
  have lt0 := kN_lt wf (p := p) (by omega) (by omega)
  have lt1 := kN_lt wf (p := p + 1) (by omega) (by omega)
  have lt2 := kN_lt wf (p := p + 2) (by omega) (by omega)
  have lt3 := kN_lt wf (p := p + 3) (by omega) (by omega)
  have e0 : mk (nI p).toNatClampNeg = nI (mkT 7) := by rw [nI_clamp (by omega), (rm p hp).1, h0]
  unfold wX10_isLine
  rw [e0]
  refine ⟨vp_in_nI (by omega) (by decide), br_f (by decide) (br_f (by decide) (bn_f (by decide) (bn_f (by decide) (bn_t (by decide) (?_)))))⟩
  exact m_as_y wf rm hp 7 h0 (br_f (by decide) (m_place_F3 wf rm (p := p + 1) (by omega) h1 h2 h3 h4 (fun me' => br_t rfl (kk _ rfl))))
theorem m_spring_S (wf : wfN x) (rm : rNm x mk fr va) (hp : p ≤ nN x) (h0 : kN x p = 7) (h1 : kN x (p + 1) = 8) (h2 : kN x (p + 2) = 45) (h3 : kN x (p + 3) = 34) (h4 : kN x (p + 4) = 45) (kk : K 1 (upd (upd (upd (me) p 0) (p + 2) 7) (p + 4) 8, nI (p + 5), dp, od, gd, gb, ge, go, gw, gm)) : wX10_isLine mk me va (nI p) dp od gd gb ge go gw gm K := by
  have n4 := wf.1
  have lt0 := kN_lt wf (p := p) (by omega) (by omega)
  have lt1 := kN_lt wf (p := p + 1) (by omega) (by omega)
  have lt2 := kN_lt wf (p := p + 2) (by omega) (by omega)
  have lt3 := kN_lt wf (p := p + 3) (by omega) (by omega)
  have lt4 := kN_lt wf (p := p + 4) (by omega) (by omega)
  have e0 : mk (nI p).toNatClampNeg = nI (mkT 7) := by rw [nI_clamp (by omega), (rm p hp).1, h0]
  unfold wX10_isLine
  rw [e0]
  refine ⟨vp_in_nI (by omega) (by decide), br_f (by decide) (br_f (by decide) (bn_f (by decide) (bn_f (by decide) (bn_t (by decide) (?_)))))⟩
  exact m_as_y wf rm hp 7 h0 (br_f (by decide) (m_place_S wf rm (p := p + 1) (by omega) h1 h2 h3 h4 (br_f (by decide) (kk))))
theorem m_coin_F1 (wf : wfN x) (rm : rNm x mk fr va) (hp : p ≤ nN x) (h0 : kN x p = 5) (h1 : kN x (p + 1) ≠ 8) (kk : ∀ u : LK, u.2.1 = nI (p + 1) → K 0 u) : wX10_isLine mk me va (nI p) dp od gd gb ge go gw gm K := by
  have n4 := wf.1
  have lt0 := kN_lt wf (p := p) (by omega) (by omega)
  have e0 : mk (nI p).toNatClampNeg = nI (mkT 5) := by rw [nI_clamp (by omega), (rm p hp).1, h0]
  unfold wX10_isLine
  rw [e0]
  refine ⟨vp_in_nI (by omega) (by decide), br_f (by decide) (br_f (by decide) (bn_f (by decide) (bn_f (by decide) (bn_f (by decide) (bn_t (by decide) (?_))))))⟩
  exact m_as_y wf rm hp 5 h0 (br_f (by decide) (m_place_F0 wf rm (p := p + 1) (by omega) h1 (fun me' => br_t rfl (kk _ rfl))))
theorem m_coin_F2 (wf : wfN x) (rm : rNm x mk fr va) (hp : p ≤ nN x) (h0 : kN x p = 5) (h1 : kN x (p + 1) = 8) (h2 : kN x (p + 2) ≠ 45) (kk : ∀ u : LK, u.2.1 = nI (p + 2) → K 0 u) : wX10_isLine mk me va (nI p) dp od gd gb ge go gw gm K := by
  have n4 := wf.1
  have lt0 := kN_lt wf (p := p) (by omega) (by omega)
  have lt1 := kN_lt wf (p := p + 1) (by omega) (by omega)
  have e0 : mk (nI p).toNatClampNeg = nI (mkT 5) := by rw [nI_clamp (by omega), (rm p hp).1, h0]
  unfold wX10_isLine
  rw [e0]
  refine ⟨vp_in_nI (by omega) (by decide), br_f (by decide) (br_f (by decide) (bn_f (by decide) (bn_f (by decide) (bn_f (by decide) (bn_t (by decide) (?_))))))⟩
  exact m_as_y wf rm hp 5 h0 (br_f (by decide) (m_place_F1 wf rm (p := p + 1) (by omega) h1 h2 (fun me' => br_t rfl (kk _ rfl))))
theorem m_coin_F3 (wf : wfN x) (rm : rNm x mk fr va) (hp : p ≤ nN x) (h0 : kN x p = 5) (h1 : kN x (p + 1) = 8) (h2 : kN x (p + 2) = 45) (h3 : kN x (p + 3) ≠ 34) (kk : ∀ u : LK, u.2.1 = nI (p + 3) → K 0 u) : wX10_isLine mk me va (nI p) dp od gd gb ge go gw gm K := by
  have n4 := wf.1
  have lt0 := kN_lt wf (p := p) (by omega) (by omega)
  have lt1 := kN_lt wf (p := p + 1) (by omega) (by omega)
  have lt2 := kN_lt wf (p := p + 2) (by omega) (by omega)
  have e0 : mk (nI p).toNatClampNeg = nI (mkT 5) := by rw [nI_clamp (by omega), (rm p hp).1, h0]
  unfold wX10_isLine
  rw [e0]
  refine ⟨vp_in_nI (by omega) (by decide), br_f (by decide) (br_f (by decide) (bn_f (by decide) (bn_f (by decide) (bn_f (by decide) (bn_t (by decide) (?_))))))⟩
  exact m_as_y wf rm hp 5 h0 (br_f (by decide) (m_place_F2 wf rm (p := p + 1) (by omega) h1 h2 h3 (fun me' => br_t rfl (kk _ rfl))))
theorem m_coin_F4 (wf : wfN x) (rm : rNm x mk fr va) (hp : p ≤ nN x) (h0 : kN x p = 5) (h1 : kN x (p + 1) = 8) (h2 : kN x (p + 2) = 45) (h3 : kN x (p + 3) = 34) (h4 : kN x (p + 4) ≠ 45) (kk : ∀ u : LK, u.2.1 = nI (p + 4) → K 0 u) : wX10_isLine mk me va (nI p) dp od gd gb ge go gw gm K := by
  have n4 := wf.1
  have lt0 := kN_lt wf (p := p) (by omega) (by omega)
  have lt1 := kN_lt wf (p := p + 1) (by omega) (by omega)
  have lt2 := kN_lt wf (p := p + 2) (by omega) (by omega)
  have lt3 := kN_lt wf (p := p + 3) (by omega) (by omega)
  have e0 : mk (nI p).toNatClampNeg = nI (mkT 5) := by rw [nI_clamp (by omega), (rm p hp).1, h0]
  unfold wX10_isLine
  rw [e0]
  refine ⟨vp_in_nI (by omega) (by decide), br_f (by decide) (br_f (by decide) (bn_f (by decide) (bn_f (by decide) (bn_f (by decide) (bn_t (by decide) (?_))))))⟩
  exact m_as_y wf rm hp 5 h0 (br_f (by decide) (m_place_F3 wf rm (p := p + 1) (by omega) h1 h2 h3 h4 (fun me' => br_t rfl (kk _ rfl))))
theorem m_coin_F5 (wf : wfN x) (rm : rNm x mk fr va) (hp : p ≤ nN x) (h0 : kN x p = 5) (h1 : kN x (p + 1) = 8) (h2 : kN x (p + 2) = 45) (h3 : kN x (p + 3) = 34) (h4 : kN x (p + 4) = 45) (h5 : kN x (p + 5) ≠ 9) (kk : ∀ u : LK, u.2.1 = nI (p + 5) → K 0 u) : wX10_isLine mk me va (nI p) dp od gd gb ge go gw gm K := by
  have n4 := wf.1
  have lt0 := kN_lt wf (p := p) (by omega) (by omega)
  have lt1 := kN_lt wf (p := p + 1) (by omega) (by omega)
  have lt2 := kN_lt wf (p := p + 2) (by omega) (by omega)
  have lt3 := kN_lt wf (p := p + 3) (by omega) (by omega)
  have lt4 := kN_lt wf (p := p + 4) (by omega) (by omega)
  have e0 : mk (nI p).toNatClampNeg = nI (mkT 5) := by rw [nI_clamp (by omega), (rm p hp).1, h0]
  unfold wX10_isLine
  rw [e0]
  refine ⟨vp_in_nI (by omega) (by decide), br_f (by decide) (br_f (by decide) (bn_f (by decide) (bn_f (by decide) (bn_f (by decide) (bn_t (by decide) (?_))))))⟩
  exact m_as_y wf rm hp 5 h0 (br_f (by decide) (m_place_S wf rm (p := p + 1) (by omega) h1 h2 h3 h4 (br_f (by decide) (m_eat_n wf rm (p := p + 5) (by omega) 9 h5 (br_t rfl (kk _ rfl))))))
theorem m_coin_F6 (wf : wfN x) (rm : rNm x mk fr va) (hp : p ≤ nN x) (h0 : kN x p = 5) (h1 : kN x (p + 1) = 8) (h2 : kN x (p + 2) = 45) (h3 : kN x (p + 3) = 34) (h4 : kN x (p + 4) = 45) (h5 : kN x (p + 5) = 9) (h6 : kN x (p + 6) ≠ 45) (kk : ∀ u : LK, u.2.1 = nI (p + 6) → K 0 u) : wX10_isLine mk me va (nI p) dp od gd gb ge go gw gm K := by
  have n4 := wf.1
  have lt0 := kN_lt wf (p := p) (by omega) (by omega)
  have lt1 := kN_lt wf (p := p + 1) (by omega) (by omega)
  have lt2 := kN_lt wf (p := p + 2) (by omega) (by omega)
  have lt3 := kN_lt wf (p := p + 3) (by omega) (by omega)
  have lt4 := kN_lt wf (p := p + 4) (by omega) (by omega)
  have lt5 := kN_lt wf (p := p + 5) (by omega) (by omega)
  have e0 : mk (nI p).toNatClampNeg = nI (mkT 5) := by rw [nI_clamp (by omega), (rm p hp).1, h0]
  unfold wX10_isLine
  rw [e0]
  refine ⟨vp_in_nI (by omega) (by decide), br_f (by decide) (br_f (by decide) (bn_f (by decide) (bn_f (by decide) (bn_f (by decide) (bn_t (by decide) (?_))))))⟩
  exact m_as_y wf rm hp 5 h0 (br_f (by decide) (m_place_S wf rm (p := p + 1) (by omega) h1 h2 h3 h4 (br_f (by decide) (m_eat_y wf rm (p := p + 5) (by omega) 9 h5 (br_f (by decide) (m_as_n wf rm (p := p + 6) (by omega) 45 h6 (br_t rfl (kk _ rfl))))))))
theorem m_coin_S (wf : wfN x) (rm : rNm x mk fr va) (hp : p ≤ nN x) (h0 : kN x p = 5) (h1 : kN x (p + 1) = 8) (h2 : kN x (p + 2) = 45) (h3 : kN x (p + 3) = 34) (h4 : kN x (p + 4) = 45) (h5 : kN x (p + 5) = 9) (h6 : kN x (p + 6) = 45) (kk : K 1 (upd (upd (upd (upd (me) p 6) (p + 2) 7) (p + 4) 8) (p + 6) 9, nI (p + 7), dp, od, gd, gb, ge, go, gw, gm)) : wX10_isLine mk me va (nI p) dp od gd gb ge go gw gm K := by
  have n4 := wf.1
  have lt0 := kN_lt wf (p := p) (by omega) (by omega)
  have lt1 := kN_lt wf (p := p + 1) (by omega) (by omega)
  have lt2 := kN_lt wf (p := p + 2) (by omega) (by omega)
  have lt3 := kN_lt wf (p := p + 3) (by omega) (by omega)
  have lt4 := kN_lt wf (p := p + 4) (by omega) (by omega)
  have lt5 := kN_lt wf (p := p + 5) (by omega) (by omega)
  have lt6 := kN_lt wf (p := p + 6) (by omega) (by omega)
  have e0 : mk (nI p).toNatClampNeg = nI (mkT 5) := by rw [nI_clamp (by omega), (rm p hp).1, h0]
  unfold wX10_isLine
  rw [e0]
  refine ⟨vp_in_nI (by omega) (by decide), br_f (by decide) (br_f (by decide) (bn_f (by decide) (bn_f (by decide) (bn_f (by decide) (bn_t (by decide) (?_))))))⟩
  exact m_as_y wf rm hp 5 h0 (br_f (by decide) (m_place_S wf rm (p := p + 1) (by omega) h1 h2 h3 h4 (br_f (by decide) (m_eat_y wf rm (p := p + 5) (by omega) 9 h5 (br_f (by decide) (m_as_y wf rm (p := p + 6) (by omega) 45 h6 (br_f (by decide) (kk))))))))
theorem m_crumb_F1 (wf : wfN x) (rm : rNm x mk fr va) (hp : p ≤ nN x) (h0 : kN x p = 6) (h1 : kN x (p + 1) ≠ 8) (kk : ∀ u : LK, u.2.1 = nI (p + 1) → K 0 u) : wX10_isLine mk me va (nI p) dp od gd gb ge go gw gm K := by
  have n4 := wf.1
  have lt0 := kN_lt wf (p := p) (by omega) (by omega)
  have e0 : mk (nI p).toNatClampNeg = nI (mkT 6) := by rw [nI_clamp (by omega), (rm p hp).1, h0]
  unfold wX10_isLine
  rw [e0]
  refine ⟨vp_in_nI (by omega) (by decide), br_f (by decide) (br_f (by decide) (bn_f (by decide) (bn_f (by decide) (bn_f (by decide) (bn_f (by decide) (bn_t (by decide) (?_)))))))⟩
  exact m_as_y wf rm hp 6 h0 (br_f (by decide) (m_place_F0 wf rm (p := p + 1) (by omega) h1 (fun me' => br_t rfl (kk _ rfl))))
theorem m_crumb_F2 (wf : wfN x) (rm : rNm x mk fr va) (hp : p ≤ nN x) (h0 : kN x p = 6) (h1 : kN x (p + 1) = 8) (h2 : kN x (p + 2) ≠ 45) (kk : ∀ u : LK, u.2.1 = nI (p + 2) → K 0 u) : wX10_isLine mk me va (nI p) dp od gd gb ge go gw gm K := by
  have n4 := wf.1
  have lt0 := kN_lt wf (p := p) (by omega) (by omega)
  have lt1 := kN_lt wf (p := p + 1) (by omega) (by omega)
  have e0 : mk (nI p).toNatClampNeg = nI (mkT 6) := by rw [nI_clamp (by omega), (rm p hp).1, h0]
  unfold wX10_isLine
  rw [e0]
  refine ⟨vp_in_nI (by omega) (by decide), br_f (by decide) (br_f (by decide) (bn_f (by decide) (bn_f (by decide) (bn_f (by decide) (bn_f (by decide) (bn_t (by decide) (?_)))))))⟩
  exact m_as_y wf rm hp 6 h0 (br_f (by decide) (m_place_F1 wf rm (p := p + 1) (by omega) h1 h2 (fun me' => br_t rfl (kk _ rfl))))
theorem m_crumb_F3 (wf : wfN x) (rm : rNm x mk fr va) (hp : p ≤ nN x) (h0 : kN x p = 6) (h1 : kN x (p + 1) = 8) (h2 : kN x (p + 2) = 45) (h3 : kN x (p + 3) ≠ 34) (kk : ∀ u : LK, u.2.1 = nI (p + 3) → K 0 u) : wX10_isLine mk me va (nI p) dp od gd gb ge go gw gm K := by
  have n4 := wf.1
  have lt0 := kN_lt wf (p := p) (by omega) (by omega)
  have lt1 := kN_lt wf (p := p + 1) (by omega) (by omega)
  have lt2 := kN_lt wf (p := p + 2) (by omega) (by omega)
  have e0 : mk (nI p).toNatClampNeg = nI (mkT 6) := by rw [nI_clamp (by omega), (rm p hp).1, h0]
  unfold wX10_isLine
  rw [e0]
  refine ⟨vp_in_nI (by omega) (by decide), br_f (by decide) (br_f (by decide) (bn_f (by decide) (bn_f (by decide) (bn_f (by decide) (bn_f (by decide) (bn_t (by decide) (?_)))))))⟩
  exact m_as_y wf rm hp 6 h0 (br_f (by decide) (m_place_F2 wf rm (p := p + 1) (by omega) h1 h2 h3 (fun me' => br_t rfl (kk _ rfl))))
theorem m_crumb_F4 (wf : wfN x) (rm : rNm x mk fr va) (hp : p ≤ nN x) (h0 : kN x p = 6) (h1 : kN x (p + 1) = 8) (h2 : kN x (p + 2) = 45) (h3 : kN x (p + 3) = 34) (h4 : kN x (p + 4) ≠ 45) (kk : ∀ u : LK, u.2.1 = nI (p + 4) → K 0 u) : wX10_isLine mk me va (nI p) dp od gd gb ge go gw gm K := by
  have n4 := wf.1
  have lt0 := kN_lt wf (p := p) (by omega) (by omega)
  have lt1 := kN_lt wf (p := p + 1) (by omega) (by omega)
  have lt2 := kN_lt wf (p := p + 2) (by omega) (by omega)
  have lt3 := kN_lt wf (p := p + 3) (by omega) (by omega)
  have e0 : mk (nI p).toNatClampNeg = nI (mkT 6) := by rw [nI_clamp (by omega), (rm p hp).1, h0]
  unfold wX10_isLine
  rw [e0]
  refine ⟨vp_in_nI (by omega) (by decide), br_f (by decide) (br_f (by decide) (bn_f (by decide) (bn_f (by decide) (bn_f (by decide) (bn_f (by decide) (bn_t (by decide) (?_)))))))⟩
  exact m_as_y wf rm hp 6 h0 (br_f (by decide) (m_place_F3 wf rm (p := p + 1) (by omega) h1 h2 h3 h4 (fun me' => br_t rfl (kk _ rfl))))
theorem m_crumb_F5 (wf : wfN x) (rm : rNm x mk fr va) (hp : p ≤ nN x) (h0 : kN x p = 6) (h1 : kN x (p + 1) = 8) (h2 : kN x (p + 2) = 45) (h3 : kN x (p + 3) = 34) (h4 : kN x (p + 4) = 45) (h5 : kN x (p + 5) ≠ 10) (kk : ∀ u : LK, u.2.1 = nI (p + 5) → K 0 u) : wX10_isLine mk me va (nI p) dp od gd gb ge go gw gm K := by
  have n4 := wf.1
  have lt0 := kN_lt wf (p := p) (by omega) (by omega)
  have lt1 := kN_lt wf (p := p + 1) (by omega) (by omega)
  have lt2 := kN_lt wf (p := p + 2) (by omega) (by omega)
  have lt3 := kN_lt wf (p := p + 3) (by omega) (by omega)
  have lt4 := kN_lt wf (p := p + 4) (by omega) (by omega)
  have e0 : mk (nI p).toNatClampNeg = nI (mkT 6) := by rw [nI_clamp (by omega), (rm p hp).1, h0]
  unfold wX10_isLine
  rw [e0]
  refine ⟨vp_in_nI (by omega) (by decide), br_f (by decide) (br_f (by decide) (bn_f (by decide) (bn_f (by decide) (bn_f (by decide) (bn_f (by decide) (bn_t (by decide) (?_)))))))⟩
  exact m_as_y wf rm hp 6 h0 (br_f (by decide) (m_place_S wf rm (p := p + 1) (by omega) h1 h2 h3 h4 (br_f (by decide) (m_eat_n wf rm (p := p + 5) (by omega) 10 h5 (br_t rfl (kk _ rfl))))))
theorem m_crumb_F6 (wf : wfN x) (rm : rNm x mk fr va) (hp : p ≤ nN x) (h0 : kN x p = 6) (h1 : kN x (p + 1) = 8) (h2 : kN x (p + 2) = 45) (h3 : kN x (p + 3) = 34) (h4 : kN x (p + 4) = 45) (h5 : kN x (p + 5) = 10) (h6 : kN x (p + 6) ≠ 44) (kk : ∀ u : LK, u.2.1 = nI (p + 6) → K 0 u) : wX10_isLine mk me va (nI p) dp od gd gb ge go gw gm K := by
  have n4 := wf.1
  have lt0 := kN_lt wf (p := p) (by omega) (by omega)
  have lt1 := kN_lt wf (p := p + 1) (by omega) (by omega)
  have lt2 := kN_lt wf (p := p + 2) (by omega) (by omega)
  have lt3 := kN_lt wf (p := p + 3) (by omega) (by omega)
  have lt4 := kN_lt wf (p := p + 4) (by omega) (by omega)
  have lt5 := kN_lt wf (p := p + 5) (by omega) (by omega)
  have e0 : mk (nI p).toNatClampNeg = nI (mkT 6) := by rw [nI_clamp (by omega), (rm p hp).1, h0]
  unfold wX10_isLine
  rw [e0]
  refine ⟨vp_in_nI (by omega) (by decide), br_f (by decide) (br_f (by decide) (bn_f (by decide) (bn_f (by decide) (bn_f (by decide) (bn_f (by decide) (bn_t (by decide) (?_)))))))⟩
  exact m_as_y wf rm hp 6 h0 (br_f (by decide) (m_place_S wf rm (p := p + 1) (by omega) h1 h2 h3 h4 (br_f (by decide) (m_eat_y wf rm (p := p + 5) (by omega) 10 h5 (br_f (by decide) (m_as_n wf rm (p := p + 6) (by omega) 44 h6 (br_t rfl (kk _ rfl))))))))
theorem m_crumb_S (wf : wfN x) (rm : rNm x mk fr va) (hp : p ≤ nN x) (h0 : kN x p = 6) (h1 : kN x (p + 1) = 8) (h2 : kN x (p + 2) = 45) (h3 : kN x (p + 3) = 34) (h4 : kN x (p + 4) = 45) (h5 : kN x (p + 5) = 10) (h6 : kN x (p + 6) = 44) (kk : K 1 (upd (upd (upd (upd (me) p 6) (p + 2) 7) (p + 4) 8) (p + 6) 10, nI (p + 7), dp, od, gd, gb, ge, go, gw, gm)) : wX10_isLine mk me va (nI p) dp od gd gb ge go gw gm K := by
  have n4 := wf.1
  have lt0 := kN_lt wf (p := p) (by omega) (by omega)
  have lt1 := kN_lt wf (p := p + 1) (by omega) (by omega)
  have lt2 := kN_lt wf (p := p + 2) (by omega) (by omega)
  have lt3 := kN_lt wf (p := p + 3) (by omega) (by omega)
  have lt4 := kN_lt wf (p := p + 4) (by omega) (by omega)
  have lt5 := kN_lt wf (p := p + 5) (by omega) (by omega)
  have lt6 := kN_lt wf (p := p + 6) (by omega) (by omega)
  have e0 : mk (nI p).toNatClampNeg = nI (mkT 6) := by rw [nI_clamp (by omega), (rm p hp).1, h0]
  unfold wX10_isLine
  rw [e0]
  refine ⟨vp_in_nI (by omega) (by decide), br_f (by decide) (br_f (by decide) (bn_f (by decide) (bn_f (by decide) (bn_f (by decide) (bn_f (by decide) (bn_t (by decide) (?_)))))))⟩
  exact m_as_y wf rm hp 6 h0 (br_f (by decide) (m_place_S wf rm (p := p + 1) (by omega) h1 h2 h3 h4 (br_f (by decide) (m_eat_y wf rm (p := p + 5) (by omega) 10 h5 (br_f (by decide) (m_as_y wf rm (p := p + 6) (by omega) 44 h6 (br_f (by decide) (kk))))))))
theorem m_line_no (wf : wfN x) (rm : rNm x mk fr va) (hp : p ≤ nN x) (h : kN x p ≠ 11 ∧ kN x p ≠ 12 ∧ kN x p ≠ 13 ∧ kN x p ≠ 2 ∧ kN x p ≠ 7 ∧ kN x p ≠ 5 ∧ kN x p ≠ 6) (kk : ∀ u : LK, u.2.1 = nI p → K 0 u) : wX10_isLine mk me va (nI p) dp od gd gb ge go gw gm K := by
  have n4 := wf.1
  unfold wX10_isLine
  exact ⟨vp_in_nI (by omega) (by decide), br_f (m_ne wf rm hp 11 (by omega)) (br_f (m_ne wf rm hp 12 (by omega)) (bn_f (m_ne wf rm hp 13 (by omega)) (bn_f (m_ne wf rm hp 2 (by omega)) (bn_f (m_ne wf rm hp 7 (by omega)) (bn_f (m_ne wf rm hp 5 (by omega)) (bn_f (m_ne wf rm hp 6 (by omega)) (kk _ rfl)))))))⟩
theorem m_line_order (wf : wfN x) (rm : rNm x mk fr va) (hp : p ≤ nN x) (h : kN x p = 11 ∨ kN x p = 12 ∨ kN x p = 13) (kk : wX10_isOrder mk me va (nI p) dp od gd gb ge go gw gm K) : wX10_isLine mk me va (nI p) dp od gd gb ge go gw gm K := by
  have n4 := wf.1
  have l28 : wX10_isLine_28 K mk va me (nI p) dp od gd gb ge go gw gm := kk
  unfold wX10_isLine
  rw [nI_clamp (by omega), (rm p hp).1]
  rcases h with h | h | h
  · rw [h]
    exact ⟨vp_in_nI (by omega) (by decide), br_t (by decide) l28⟩
  · rw [h]
    exact ⟨vp_in_nI (by omega) (by decide), br_f (by decide) (br_t (by decide) l28)⟩
  · rw [h]
    exact ⟨vp_in_nI (by omega) (by decide), br_f (by decide) (br_f (by decide) (bn_t (by decide) l28))⟩
end MLINE
section ORDER
variable {x : Tn} {ki st nu mk fr : Nat → Int32} {na va : Nat → Int64} {p E : Nat} {cn : Nat → Int64}
theorem gmin_tab : ∀ O, O < 401 → g_min 15 (nI O) = nI (min 15 O) := by decide +kernel
theorem gmin (O : Nat) (h : O < 401) : g_min 15 (nI O) = nI (min 15 O) := gmin_tab O h
def ordC (x : Tn) (ki st nu : Nat → Int32) (na : Nat → Int64) (E : Nat) (cn : Nat → Int64) (p q : Nat) (L1 L2 : List (Nat × Nat)) : Prop := ∀ (e : Int32 × Int32) (O m : Nat) (Ok Se Te sK sD : Nat → Int32) (K : (Int32 × Int32 × Int32 × Int32 × Int32 × Int32 × (Nat → Int32) × (Nat → Int32) × (Nat → Int32) × (Nat → Int32) × (Nat → Int32)) → Prop), e.1 ≠ 1 → O ≤ 16 → m ≤ p →
  (∀ e1, e1 = erF x (bdN x E cn) (p + 1) q (ck x (decide (16 ≤ O)) 4 p e) → (e1.1 = 0 → O < 16 → K (nI q, nI (kN x q), e1.1, e1.2, nI (O + 1), nI (m + (L1 ++ L2).length), upd Ok O (nI (kN x p)), upd Se O (nI (m + L1.length)), upd Te O (nI (m + (L1 ++ L2).length)), apF cKd sK m (L1 ++ L2), apF (cDt x E cn) sD m (L1 ++ L2))) ∧ (e1.1 ≠ 0 → K (nI q, nI (kN x q), e1.1, e1.2, nI O, nI (m + (L1 ++ L2).length), Ok, Se, Te, apF cKd sK m (L1 ++ L2), apF (cDt x E cn) sD m (L1 ++ L2)))) →
  wX3_readOrder ki st nu na (nI (nN x + 1)) (nI p) (nI (kN x p)) e.1 e.2 (nI E) cn (nI O) (nI m) Ok Se Te sK sD K
def ordCF (x : Tn) (ki st nu : Nat → Int32) (na : Nat → Int64) (E : Nat) (cn : Nat → Int64) (p q : Nat) : Prop := ∀ (e : Int32 × Int32) (O m : Nat) (Ok Se Te sK sD : Nat → Int32) (K : (Int32 × Int32 × Int32 × Int32 × Int32 × Int32 × (Nat → Int32) × (Nat → Int32) × (Nat → Int32) × (Nat → Int32) × (Nat → Int32)) → Prop), e.1 ≠ 1 → O ≤ 16 → m ≤ p → (∀ R, K (nI q, 48, 1, nI (sN x q), R)) → wX3_readOrder ki st nu na (nI (nN x + 1)) (nI p) (nI (kN x p)) e.1 e.2 (nI E) cn (nI O) (nI m) Ok Se Te sK sD K
def ordM (x : Tn) (mk : Nat → Int32) (va : Nat → Int64) (p q : Nat) (L1 L2 : List (Nat × Nat)) : Prop := ∀ (me gd gb ge go gw : Nat → Int32) (O m : Nat) (K : Int32 → LK → Prop), O ≤ 400 → m ≤ p →
  (∀ gb' ge', (∀ i, i ≠ 2 * min 15 O → i ≠ 2 * min 15 O + 1 → gb' i = gb i ∧ ge' i = ge i) → gb' (2 * min 15 O) = nI m → ge' (2 * min 15 O) = nI (m + L1.length) → gb' (2 * min 15 O + 1) = nI (m + L1.length) → ge' (2 * min 15 O + 1) = nI (m + (L1 ++ L2).length) → K 1 (meF x (p + 1) q (upd me p 11), nI q, nI 0, nI (O + 1), upd gd (min 15 O) (nI (kN x p)), gb', ge', apF mKd go m (L1 ++ L2), apF (mWt x) gw m (L1 ++ L2), nI (m + (L1 ++ L2).length))) →
  wX10_isOrder mk me va (nI p) (nI 0) (nI O) gd gb ge go gw (nI m) K
def ordMF (mk : Nat → Int32) (va : Nat → Int64) (p q : Nat) : Prop := ∀ (me gd gb ge go gw : Nat → Int32) (O m : Nat) (K : Int32 → LK → Prop), O ≤ 400 → m ≤ p → (∀ u : LK, u.2.1 = nI q → K 0 u) → wX10_isOrder mk me va (nI p) (nI 0) (nI O) gd gb ge go gw (nI m) K
/-- the class's order from its sum on -/
theorem c_ord20 (wf : wfN x) (rc : rNc x ki st nu na) (hp : p ≤ nN x) {O m : Nat} {e : Int32 × Int32} {Ok Se Te sK sD : Nat → Int32} {K : (Int32 × Int32 × Int32 × Int32 × Int32 × Int32 × (Nat → Int32) × (Nat → Int32) × (Nat → Int32) × (Nat → Int32) × (Nat → Int32)) → Prop} (hO : O ≤ 16) (kk : ∀ e1, e1 = ck x (decide (16 ≤ O)) 4 p e → wX3_readOrder_20 K ki st nu na (nI (nN x + 1)) (nI E) cn (nI p) (nI (kN x p)) e1.1 e1.2 (nI O) (nI m) Ok Se Te sK sD) : wX3_readOrder ki st nu na (nI (nN x + 1)) (nI p) (nI (kN x p)) e.1 e.2 (nI E) cn (nI O) (nI m) Ok Se Te sK sD K := by
  have n4 := wf.1
  unfold wX3_readOrder
  refine pk_lt O 16 (fun z => kk e (by rw [ck_f (decide_eq_false (by omega))])) (fun z => ?_)
  unfold wX3_complain
  refine ⟨fun v => kk e (by rw [ck_err v]), fun v => ⟨vp_in_nI (by omega) (by decide), ?_⟩⟩
  rw [nI_clamp (by omega), (rc p hp).2.1]
  refine kk (4, nI (sN x p)) ?_
  unfold ck
  rw [if_pos ⟨v, decide_eq_true z⟩]
theorem c_ord63 {a k : Int32} {O m s1 : Nat} {e1 : Int32 × Int32} {kd : Int32} {Ok Se Te sK sD : Nat → Int32} {e : Int32 × Int32} {nn : Int32} {cnE : Int32} {K : (Int32 × Int32 × Int32 × Int32 × Int32 × Int32 × (Nat → Int32) × (Nat → Int32) × (Nat → Int32) × (Nat → Int32) × (Nat → Int32)) → Prop} (hO : O ≤ 16) (h16 : e1.1 = 0 → O < 16) (kk : (e1.1 = 0 → O < 16 → K (a, k, e1.1, e1.2, nI (O + 1), nI m, upd Ok O kd, upd Se O (nI s1), upd Te O (nI m), sK, sD)) ∧ (e1.1 ≠ 0 → K (a, k, e1.1, e1.2, nI O, nI m, Ok, Se, Te, sK, sD))) : wX3_readOrder_63 K ki st nu na nn cnE cn a k e1.1 e1.2 (nI O) (nI m) Ok Se Te sK sD kd (nI s1) := by
  unfold wX3_readOrder_63
  refine ⟨fun z => kk.2 z, fun z => ?_⟩
  have o := h16 z
  unfold wX1_addOrder
  refine br_f (nI_ge (b := 16) o (by decide)) ⟨vp_in_nI o (by decide), vp_in_nI o (by decide), vp_in_nI o (by decide), ?_⟩
  rw [nI_1, nI_clamp (by omega)]
  exact kk.1 z o
theorem ord_ex2 (wf : wfN x) (rc : rNc x ki st nu na) (rm : rNm x mk fr va) (hE : E ≤ 6) (hp : p ≤ nN x) (h : kN x p = 11 ∨ kN x p = 12 ∨ kN x p = 13) : ∃ q, p < q ∧ q ≤ nN x ∧ ((ordCF x ki st nu na E cn p q ∧ ordMF mk va p q) ∨ ∃ L1 L2, (L1 ++ L2).length ≤ q - p ∧ tyL L1 [] = some [false] ∧ (L2 = [] ∨ tyL L2 [] = some [true]) ∧ okL x (p + 1) q (L1 ++ L2) ∧ ordC x ki st nu na E cn p q L1 L2 ∧ ordM x mk va p q L1 L2) := by
  have n4 := wf.1
  have lt := kN_lt wf hp (by omega)
  have n44 : kN x p ≠ 44 := by omega
  have h16 : ∀ {O : Nat} {e e1 : Int32 × Int32} {q : Nat}, e1 = erF x (bdN x E cn) (p + 1) q (ck x (decide (16 ≤ O)) 4 p e) → e1.1 = 0 → O < 16 := by
    intro O e e1 q hq z
    rw [hq] at z
    have a := erF_0 z
    have b := ck_0 (by decide) a.1
    have := of_decide_eq_false b.2.1
    omega
  have kd : mk (nI p).toNatClampNeg = nI (kN x p) := by
    rw [nI_clamp (by omega), (rm p hp).1]
    rcases h with h | h | h <;> rw [h] <;> rfl
  have m30 : ∀ O : Nat, 2 * min 15 O + 1 < 32 ∧ min 15 O < 16 := fun O => by omega
  obtain ⟨q1, a1, a2, ⟨cf, mf⟩ | ⟨L1, l1, l2, l3, cs, ms⟩⟩ := sumsO (p := p + 1) (nm := cn) wf rc rm hE (by omega)
  · refine ⟨q1, by omega, a2, Or.inl ⟨fun e O m Ok Se Te sK sD K he hO hm kk => c_ord20 wf rc hp hO (fun e1 q => ?_), fun me gd gb ge go gw O m K hO hm kk => ?_⟩⟩
    · unfold wX3_readOrder_20
      refine c_adv wf rc lt (cf e1.1 e1.2 m sK sD _ (by rw [q]; exact ck_ne (by decide) he) (by omega) (fun m' sK' sD' hm' => bn_f (show ¬ (48 : Int32) = 14 by decide) ?_))
      unfold wX3_readOrder_63
      exact bn_f (show ¬ (1 : Int32) = 0 by decide) (kk _)
    · unfold wX10_isOrder
      rw [gmin O (by omega)]
      refine ⟨vp_in_nI (by omega) (by decide), vp_in_nI (m30 O).2 (by decide), vp_in_nI (by omega) (by decide), ?_⟩
      rw [show (2 : Int32) = nI 2 from rfl, pk_mul, nI_1, nI_1]
      unfold wX10_isPart
      have := m30 O
      refine ⟨vp_in_nI (by omega) (by decide), br_t rfl ?_⟩
      exact mf _ go gw m _ (by omega) (fun u hu => bn_t rfl (bn_t rfl (kk _ hu)))
  · by_cases hw : kN x q1 = 14
    · have lt2 := kN_lt wf a2 (by omega)
      obtain ⟨q2, b1, b2, ⟨cf2, mf2⟩ | ⟨L2, k1, k2, k3, cs2, ms2⟩⟩ := testsO (p := q1 + 1) (nm := cn) wf rc rm hE (by omega)
      · refine ⟨q2, by omega, b2, Or.inl ⟨fun e O m Ok Se Te sK sD K he hO hm kk => c_ord20 wf rc hp hO (fun e1 q => ?_), fun me gd gb ge go gw O m K hO hm kk => ?_⟩⟩
        · unfold wX3_readOrder_20
          have he1 : e1.1 ≠ 1 := by rw [q]; exact ck_ne (by decide) he
          refine c_adv wf rc lt (cs e1.1 e1.2 m sK sD _ he1 (by omega) (bn_t (show nI (kN x q1) = 14 by rw [hw]; rfl) ?_))
          refine c_adv wf rc lt2 (cf2 _ _ (m + L1.length) _ _ _ (erF_ne he1) (by omega) (fun m' sK' sD' hm' => ?_))
          unfold wX3_readOrder_63
          exact bn_f (show ¬ (1 : Int32) = 0 by decide) (kk _)
        · unfold wX10_isOrder
          rw [gmin O (by omega)]
          have := m30 O
          refine ⟨vp_in_nI (by omega) (by decide), vp_in_nI (m30 O).2 (by decide), vp_in_nI (by omega) (by decide), ?_⟩
          rw [show (2 : Int32) = nI 2 from rfl, pk_mul, nI_1, nI_1]
          unfold wX10_isPart
          refine ⟨vp_in_nI (by omega) (by decide), br_t rfl ?_⟩
          refine ms _ go gw m _ (by omega) (bn_f (by decide) ?_)
          unfold wX10_isPart_35
          refine ⟨vp_in_nI (by omega) (by decide), bn_f (by decide) ⟨vp_in_nI (by omega) (by decide), vp_in_nI (by omega) (by decide), m_eat_y wf rm a2 14 hw (br_f (by decide) ⟨vp_in_nI (by omega) (by decide), br_f (by decide) ?_⟩)⟩⟩
          exact mf2 _ _ _ (m + L1.length) _ (by omega) (fun u hu => bn_t rfl (br_t rfl (kk _ hu)))
      · have ll : ∀ m : Nat, m + (L1 ++ L2).length = m + L1.length + L2.length := fun m => by rw [List.length_append, Nat.add_assoc]
        refine ⟨q2, by omega, b2, Or.inr ⟨L1, L2, by rw [List.length_append]; omega, l2 [], Or.inr (k2 []), okL_app l3 k3 (by omega) (by omega) (by omega) (by omega), fun e O m Ok Se Te sK sD K he hO hm kk => c_ord20 wf rc hp hO (fun e1 q => ?_), fun me gd gb ge go gw O m K hO hm kk => ?_⟩⟩
        · unfold wX3_readOrder_20
          have he1 : e1.1 ≠ 1 := by rw [q]; exact ck_ne (by decide) he
          refine c_adv wf rc lt (cs e1.1 e1.2 m sK sD _ he1 (by omega) (bn_t (show nI (kN x q1) = 14 by rw [hw]; rfl) ?_))
          refine c_adv wf rc lt2 (cs2 _ _ (m + L1.length) _ _ _ (erF_ne he1) (by omega) ?_)
          have eq : erF x (bdN x E cn) (q1 + 1) q2 ((erF x (bdN x E cn) (p + 1) q1 (e1.1, e1.2)).1, (erF x (bdN x E cn) (p + 1) q1 (e1.1, e1.2)).2) = erF x (bdN x E cn) (p + 1) q2 (ck x (decide (16 ≤ O)) 4 p e) := by
            show erF x (bdN x E cn) (q1 + 1) q2 (erF x (bdN x E cn) (p + 1) q1 e1) = _
            rw [← erF_pre (p := q1) (by omega) (by omega), erF_join a1 (by omega), q]
          rw [eq]
          have t := kk _ rfl
          rw [ll m, apF_app, apF_app] at t
          exact c_ord63 (e := e) hO (h16 rfl) t
        · unfold wX10_isOrder
          rw [gmin O (by omega)]
          have := m30 O
          refine ⟨vp_in_nI (by omega) (by decide), vp_in_nI (m30 O).2 (by decide), vp_in_nI (by omega) (by decide), ?_⟩
          rw [show (2 : Int32) = nI 2 from rfl, pk_mul, nI_1, nI_1, kd]
          unfold wX10_isPart
          refine ⟨vp_in_nI (by omega) (by decide), br_t rfl ?_⟩
          refine ms _ go gw m _ (by omega) (bn_f (by decide) ?_)
          unfold wX10_isPart_35
          refine ⟨vp_in_nI (by omega) (by decide), bn_f (by decide) ⟨vp_in_nI (by omega) (by decide), vp_in_nI (by omega) (by decide), m_eat_y wf rm a2 14 hw (br_f (by decide) ⟨vp_in_nI (by omega) (by decide), br_f (by decide) ?_⟩)⟩⟩
          refine ms2 _ _ _ (m + L1.length) _ (by omega) (bn_f (by decide) ?_)
          refine ⟨vp_in_nI (by omega) (by decide), br_f (by decide) ?_⟩
          have t := kk (upd (upd (upd gb (2 * min 15 O) (nI m)) (2 * min 15 O + 1) (nI (m + L1.length))) (2 * min 15 O + 1) (nI (m + L1.length))) (upd (upd (upd ge (2 * min 15 O) (nI (m + L1.length))) (2 * min 15 O + 1) (nI (m + L1.length))) (2 * min 15 O + 1) (nI (m + (L1 ++ L2).length))) (fun i z1 z2 => ⟨by rw [un z2, un z2, un z1], by rw [un z2, un z2, un z1]⟩) (by rw [un (by omega), un (by omega), us]) (by rw [un (by omega), un (by omega), us]) us us
          rw [ll m, apF_app, apF_app, ← meF_join (p := p + 1) (q := q1) (r := q2) a1 (by omega), meF_pre (p := q1) (by omega) (by omega)] at t
          rw [nI_1 O, nI_clamp (n := p) (by omega), nI_clamp (n := 2 * min 15 O) (by omega), nI_clamp (n := 2 * min 15 O + 1) (by omega), nI_clamp (n := min 15 O) (by omega)]
          exact t
    · refine ⟨q1, by omega, a2, Or.inr ⟨L1, [], by rw [List.append_nil]; omega, l2 [], Or.inl rfl, by rw [List.append_nil]; exact l3, fun e O m Ok Se Te sK sD K he hO hm kk => c_ord20 wf rc hp hO (fun e1 q => ?_), fun me gd gb ge go gw O m K hO hm kk => ?_⟩⟩
      · unfold wX3_readOrder_20
        have he1 : e1.1 ≠ 1 := by rw [q]; exact ck_ne (by decide) he
        refine c_adv wf rc lt (cs e1.1 e1.2 m sK sD _ he1 (by omega) (bn_f (c_ne wf a2 14 hw) ?_))
        have t := kk _ rfl
        rw [List.append_nil, ← q] at t
        exact c_ord63 (e := e) hO (h16 (by rw [← q])) t
      · unfold wX10_isOrder
        rw [gmin O (by omega)]
        have := m30 O
        refine ⟨vp_in_nI (by omega) (by decide), vp_in_nI (m30 O).2 (by decide), vp_in_nI (by omega) (by decide), ?_⟩
        rw [show (2 : Int32) = nI 2 from rfl, pk_mul, nI_1, nI_1, kd]
        unfold wX10_isPart
        refine ⟨vp_in_nI (by omega) (by decide), br_t rfl ?_⟩
        refine ms _ go gw m _ (by omega) (bn_f (by decide) ?_)
        unfold wX10_isPart_35
        refine ⟨vp_in_nI (by omega) (by decide), bn_f (by decide) ⟨vp_in_nI (by omega) (by decide), vp_in_nI (by omega) (by decide), m_eat_n wf rm a2 14 hw (br_t rfl ?_)⟩⟩
        have t := kk (upd (upd gb (2 * min 15 O) (nI m)) (2 * min 15 O + 1) (nI (m + L1.length))) (upd (upd ge (2 * min 15 O) (nI (m + L1.length))) (2 * min 15 O + 1) (nI (m + L1.length))) (fun i z1 z2 => ⟨by rw [un z2, un z1], by rw [un z2, un z1]⟩) (by rw [un (by omega), us]) (by rw [un (by omega), us]) us (by rw [us, List.append_nil])
        rw [List.append_nil] at t
        rw [nI_1 O, nI_clamp (n := p) (by omega), nI_clamp (n := 2 * min 15 O) (by omega), nI_clamp (n := 2 * min 15 O + 1) (by omega), nI_clamp (n := min 15 O) (by omega)]
        exact t
end ORDER
