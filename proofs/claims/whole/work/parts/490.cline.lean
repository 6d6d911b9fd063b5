/-! the class's lines -/
section CLINE
variable {x : Tn} {ki st nu : Nat → Int32} {na : Nat → Int64} {p : Nat} {e : Int32 × Int32} {N M E F O m : Nat} {cn : Nat → Int64} {Fr To Co Cu De Fi Sp Ok Se Te sK sD : Nat → Int32} {fi : Nat → Option Nat} {sp : Nat → Bool}
abbrev CRt := Int32 × Int32 × (Nat → Int64) × (Nat → Int32) × (Nat → Int32) × (Nat → Int32) × (Nat → Int32) × (Nat → Int32) × (Nat → Int32) × (Nat → Int32) × Int32 × Int32 × (Nat → Int32) × (Nat → Int32) × (Nat → Int32) × (Nat → Int32) × (Nat → Int32)
theorem c_numE (wf : wfN x) (rc : rNc x ki st nu na) (hp : p ≤ nN x) (h : kN x p = 45) (lo hi : Nat) {K : Int32 → (Int32 × Int32 × Int32 × Int32) → Prop} {lo' hi' : Int32} (kk : K (nI (vN x p)) (nI (p + 1), nI (kN x (p + 1)), (ck x (decide (vN x p < lo) || decide (hi < vN x p)) 5 p e).1, (ck x (decide (vN x p < lo) || decide (hi < vN x p)) 5 p e).2)) (hl : lo' = nI lo := by rfl) (hh : hi' = nI hi := by rfl) (b1 : lo < 2 ^ 31 := by omega) (b2 : hi < 2 ^ 31 := by omega) : wX3_expectNumber ki st nu (nI (nN x + 1)) (nI p) (nI (kN x p)) e.1 e.2 lo' hi' K := c_num wf rc hp h lo hi (er := e.1) (es := e.2) kk hl hh b1 b2
theorem c_placeE {Fi Sp : Nat → Int32} {N M : Nat} {fi : Nat → Option Nat} {sp : Nat → Bool} {K : Int32 → (Int32 × Int32 × Int32 × Int32) → Prop} (b : Bool) (wf : wfN x) (rc : rNc x ki st nu na) (hp : p ≤ nN x) (hN : 2 ≤ N ∧ N ≤ 8) (hM : 2 ≤ M ∧ M ≤ 10) (rfi : ∀ c, c < 80 → Fi c = fI (fi c)) (hfi : ∀ c f, c < 80 → fi c = some f → f < 2 ^ 31) (rsp : rB 80 Sp sp) (h0 : kN x p = 8) (h1 : kN x (p + 1) = 45) (h2 : kN x (p + 2) = 34) (h3 : kN x (p + 3) = 45)
    (k0 : (ePl x N M (tkf fi sp b) p e).1 = 0 → K (nI (vN x (p + 1) * 10 + vN x (p + 3))) (nI (p + 4), nI (kN x (p + 4)), (ePl x N M (tkf fi sp b) p e).1, (ePl x N M (tkf fi sp b) p e).2)) (k1 : (ePl x N M (tkf fi sp b) p e).1 ≠ 0 → K (-1) (nI (p + 4), nI (kN x (p + 4)), (ePl x N M (tkf fi sp b) p e).1, (ePl x N M (tkf fi sp b) p e).2)) : wX3_readPlace ki st nu (nI (nN x + 1)) (nI p) (nI (kN x p)) e.1 e.2 (nI N) (nI M) Fi Sp (zB b) K := c_place_S (er := e.1) (es := e.2) wf rc hp hN hM rfi hfi rsp h0 h1 h2 h3 k0 k1
theorem c_knownE (wf : wfN x) (rc : rNc x ki st nu na) (hp : p ≤ nN x) (h : kN x p = 44) {E : Nat} (hE : E ≤ 6) {nm : Nat → Int64} {K : Int32 → (Int32 × Int32 × Int32 × Int32) → Prop} (kk : K (fI (emF nm (cN x p) E)) (nI (p + 1), nI (kN x (p + 1)), (erF x (bdN x E nm) p (p + 1) e).1, (erF x (bdN x E nm) p (p + 1) e).2)) : wX3_readKnownEmpire ki st na (nI (nN x + 1)) (nI p) (nI (kN x p)) e.1 e.2 (nI E) nm K := c_known_y (er := e.1) (es := e.2) wf rc hp h hE kk
theorem c_numX (wf : wfN x) (rc : rNc x ki st nu na) (hp : p ≤ nN x) (h : kN x p = 45) (lo hi : Nat) {K : Int32 → (Int32 × Int32 × Int32 × Int32) → Prop} {lo' hi' : Int32} (kk : ∀ e1, e1 = ck x (decide (vN x p < lo) || decide (hi < vN x p)) 5 p e → K (nI (vN x p)) (nI (p + 1), nI (kN x (p + 1)), e1.1, e1.2)) (hl : lo' = nI lo := by rfl) (hh : hi' = nI hi := by rfl) (b1 : lo < 2 ^ 31 := by omega) (b2 : hi < 2 ^ 31 := by omega) : wX3_expectNumber ki st nu (nI (nN x + 1)) (nI p) (nI (kN x p)) e.1 e.2 lo' hi' K := c_num wf rc hp h lo hi (er := e.1) (es := e.2) (kk _ rfl) hl hh b1 b2
theorem c_placeX {Fi Sp : Nat → Int32} {N M : Nat} {fi : Nat → Option Nat} {sp : Nat → Bool} {K : Int32 → (Int32 × Int32 × Int32 × Int32) → Prop} (b : Bool) (wf : wfN x) (rc : rNc x ki st nu na) (hp : p ≤ nN x) (hN : 2 ≤ N ∧ N ≤ 8) (hM : 2 ≤ M ∧ M ≤ 10) (rfi : ∀ c, c < 80 → Fi c = fI (fi c)) (hfi : ∀ c f, c < 80 → fi c = some f → f < 2 ^ 31) (rsp : rB 80 Sp sp) (h0 : kN x p = 8) (h1 : kN x (p + 1) = 45) (h2 : kN x (p + 2) = 34) (h3 : kN x (p + 3) = 45)
    (kk : ∀ e1, e1 = ePl x N M (tkf fi sp b) p e → (e1.1 = 0 → K (nI (vN x (p + 1) * 10 + vN x (p + 3))) (nI (p + 4), nI (kN x (p + 4)), e1.1, e1.2)) ∧ (e1.1 ≠ 0 → K (-1) (nI (p + 4), nI (kN x (p + 4)), e1.1, e1.2))) : wX3_readPlace ki st nu (nI (nN x + 1)) (nI p) (nI (kN x p)) e.1 e.2 (nI N) (nI M) Fi Sp (zB b) K := c_place_S (er := e.1) (es := e.2) wf rc hp hN hM rfi hfi rsp h0 h1 h2 h3 (fun z => (kk _ rfl).1 z) (fun z => (kk _ rfl).2 z)
theorem c_knownX (wf : wfN x) (rc : rNc x ki st nu na) (hp : p ≤ nN x) (h : kN x p = 44) {E : Nat} (hE : E ≤ 6) {nm : Nat → Int64} {K : Int32 → (Int32 × Int32 × Int32 × Int32) → Prop} (kk : ∀ e1, e1 = erF x (bdN x E nm) p (p + 1) e → K (fI (emF nm (cN x p) E)) (nI (p + 1), nI (kN x (p + 1)), e1.1, e1.2)) : wX3_readKnownEmpire ki st na (nI (nN x + 1)) (nI p) (nI (kN x p)) e.1 e.2 (nI E) nm K := c_known_y (er := e.1) (es := e.2) wf rc hp h hE (kk _ rfl)
theorem vp_in0 {a n : Nat} (h : a < n) (hn : n < 2 ^ 31) : vp_in (nI a) n := vp_in_nI h hn
/-- the empire's line: its faults -/
def eEm (x : Tn) (E : Nat) (cn : Nat → Int64) (p : Nat) (e : Int32 × Int32) : Int32 × Int32 := ck x (decide (vN x (p + 5) < vN x (p + 3)) || decide (999 < vN x (p + 5))) 5 (p + 5) (ck x (decide (vN x (p + 3) < 0) || decide (999 < vN x (p + 3))) 5 (p + 3) (ck x ((emF cn (cN x (p + 1)) E).isNone && decide (6 ≤ E)) 4 (p + 1) (ck x (emF cn (cN x (p + 1)) E).isSome 2 (p + 1) e)))
theorem c_emp_head (wf : wfN x) (rc : rNc x ki st nu na) (hp : p ≤ nN x) (hE : E ≤ 6) (h0 : kN x p = 2) (h1 : kN x (p + 1) = 44) {K : (Int32 × Int32 × Int32 × Int32 × Int32 × (Nat → Int64) × (Nat → Int32) × (Nat → Int32)) → Prop}
    (kk : wX3_readEmpire_73 K ki st nu na (nI (nN x + 1)) (nI (p + 1)) (nI (kN x (p + 1))) (ck x ((emF cn (cN x (p + 1)) E).isNone && decide (6 ≤ E)) 4 (p + 1) (ck x (emF cn (cN x (p + 1)) E).isSome 2 (p + 1) e)).1 (ck x ((emF cn (cN x (p + 1)) E).isNone && decide (6 ≤ E)) 4 (p + 1) (ck x (emF cn (cN x (p + 1)) E).isSome 2 (p + 1) e)).2 (nI E) cn Fr To (cN x (p + 1))) : wX3_readEmpire ki st nu na (nI (nN x + 1)) (nI p) (nI (kN x p)) e.1 e.2 (nI E) cn Fr To K := by
  have n4 := wf.1
  have lt0 := kN_lt wf hp (by omega)
  have lt1 := kN_lt wf (p := p + 1) (by omega) (by omega)
  have na1 : na (nI (p + 1)).toNatClampNeg = cN x (p + 1) := by rw [nI_clamp (by omega)]; exact (rc (p + 1) (by omega)).2.2.2 h1
  have st1 : st (nI (p + 1)).toNatClampNeg = nI (sN x (p + 1)) := by rw [nI_clamp (by omega)]; exact (rc (p + 1) (by omega)).2.1
  have m1 := fI_m1 (o := emF cn (cN x (p + 1)) E) (fun e z => by have := (emF_some z).1; omega)
  unfold wX3_readEmpire
  refine c_exp_y wf rc hp 2 h0 ⟨vp_in_nI (n := p + 1) (by omega) (by decide), bn_t (by show nI (kN x (p + 1)) = 44; rw [h1]; rfl) ?_⟩
  show wX7_empireNamed (nI E) cn (na (nI (p + 1)).toNatClampNeg) _
  refine c_emp hE ?_
  rw [na1]
  refine ⟨fun z => ?_, fun z => ?_⟩
  · have hn := m1.1 z
    rw [hn, Bool.true_and, ck_f (b := (emF cn (cN x (p + 1)) E).isSome) (by rw [Option.isNone_iff_eq_none.1 hn]; rfl)] at kk
    show wX3_readEmpire_47 K ki st nu na (nI (nN x + 1)) (nI (p + 1)) (nI (kN x (p + 1))) e.1 e.2 (nI E) cn Fr To (cN x (p + 1))
    unfold wX3_readEmpire_47
    refine bn_t (by rw [h1]; rfl) (pk_lt E 6 (fun y => ?_) (fun y => ?_))
    · rw [ck_f (decide_eq_false (by omega))] at kk; exact kk
    · rw [decide_eq_true y] at kk
      unfold wX3_complain
      refine ⟨fun v => ?_, fun v => ⟨vp_in_nI (by omega) (by decide), ?_⟩⟩
      · rw [ck_err  v] at kk; exact kk
      · unfold ck at kk
        rw [if_pos ⟨v, rfl⟩] at kk
        rw [st1]; exact kk
  · have hs : (emF cn (cN x (p + 1)) E).isSome = true := by
      cases q : emF cn (cN x (p + 1)) E
      · exact absurd (m1.2 (by rw [q]; rfl)) z
      · rfl
    have hn : (emF cn (cN x (p + 1)) E).isNone = false := by
      cases q : emF cn (cN x (p + 1)) E
      · rw [q] at hs; cases hs
      · rfl
    rw [hn, hs, ck_f (b := false && decide (6 ≤ E)) rfl] at kk
    show wX3_complain st (nI (p + 1)) e.1 e.2 2 (fun u3 => wX3_readEmpire_73 K ki st nu na (nI (nN x + 1)) (nI (p + 1)) (nI (kN x (p + 1))) u3.1 u3.2 (nI E) cn Fr To (cN x (p + 1)))
    unfold wX3_complain
    refine ⟨fun v => ?_, fun v => ⟨vp_in_nI (by omega) (by decide), ?_⟩⟩
    · rw [ck_err  v] at kk; exact kk
    · unfold ck at kk
      rw [if_pos ⟨v, rfl⟩] at kk
      rw [st1]; exact kk
theorem c_emp_S (wf : wfN x) (rc : rNc x ki st nu na) (hp : p ≤ nN x) (hE : E ≤ 6) (h0 : kN x p = 2) (h1 : kN x (p + 1) = 44) (h2 : kN x (p + 2) = 3) (h3 : kN x (p + 3) = 45) (h4 : kN x (p + 4) = 4) (h5 : kN x (p + 5) = 45) {K : (Int32 × Int32 × Int32 × Int32 × Int32 × (Nat → Int64) × (Nat → Int32) × (Nat → Int32)) → Prop}
    (k0 : (eEm x E cn p e).1 = 0 → E < 6 → K (nI (p + 6), nI (kN x (p + 6)), (eEm x E cn p e).1, (eEm x E cn p e).2, nI (E + 1), vp_updL cn E (cN x (p + 1)), upd Fr E (nI (vN x (p + 3))), upd To E (nI (vN x (p + 5))))) (k1 : (eEm x E cn p e).1 ≠ 0 → K (nI (p + 6), nI (kN x (p + 6)), (eEm x E cn p e).1, (eEm x E cn p e).2, nI E, cn, Fr, To)) : wX3_readEmpire ki st nu na (nI (nN x + 1)) (nI p) (nI (kN x p)) e.1 e.2 (nI E) cn Fr To K := by
  have n4 := wf.1
  have lt0 := kN_lt wf hp (by omega)
  have lt1 := kN_lt wf (p := p + 1) (by omega) (by omega)
  have lt2 := kN_lt wf (p := p + 2) (by omega) (by omega)
  have lt3 := kN_lt wf (p := p + 3) (by omega) (by omega)
  have lt4 := kN_lt wf (p := p + 4) (by omega) (by omega)
  have lt5 := kN_lt wf (p := p + 5) (by omega) (by omega)
  have v3 := wf.2.2.2.2.1 _ lt3 h3
  refine c_emp_head wf rc hp hE h0 h1 ?_
  unfold wX3_readEmpire_73
  refine c_exp_y wf rc (p := p + 1) (by omega) 44 h1 (c_exp_y wf rc (p := p + 2) (by omega) 3 h2 (c_numE wf rc (p := p + 3) (by omega) h3 0 999 (c_exp_y wf rc (p := p + 4) (by omega) 4 h4 (c_numE wf rc (p := p + 5) (by omega) h5 (vN x (p + 3)) 999 ⟨fun z => k1 z, fun z => ?_⟩))))
  have a := ck_0 (by decide) z
  have b := ck_0 (by decide) a.1
  have c := ck_0 (by decide) b.1
  have d := ck_0 (by decide) c.1
  have hn : (emF cn (cN x (p + 1)) E).isNone = true := by
    have := d.2.1
    cases q : emF cn (cN x (p + 1)) E
    · rfl
    · rw [q] at this; cases this
  have c2 := c.2.1
  rw [hn, Bool.true_and] at c2
  have e6 : E < 6 := by
    have := of_decide_eq_false c2
    omega
  unfold wX7_addEmpire
  refine br_f (nI_ge (b := 6) e6 (by decide)) ⟨vp_in_nI e6 (by decide), vp_in_nI e6 (by decide), vp_in_nI e6 (by decide), ?_⟩
  rw [nI_1 E, nI_clamp (n := E) (by omega)]
  exact k0 z e6
theorem c_emp_F1 (wf : wfN x) (rc : rNc x ki st nu na) (hp : p ≤ nN x) (he : e.1 ≠ 1) (hE : E ≤ 6) (h0 : kN x p = 2) (h1 : kN x (p + 1) ≠ 44) {K : (Int32 × Int32 × Int32 × Int32 × Int32 × (Nat → Int64) × (Nat → Int32) × (Nat → Int32)) → Prop} (kk : K (nI (p + 1), 48, 1, nI (sN x (p + 1)), nI E, cn, Fr, To)) : wX3_readEmpire ki st nu na (nI (nN x + 1)) (nI p) (nI (kN x p)) e.1 e.2 (nI E) cn Fr To K := by
  have n4 := wf.1
  have lt0 := kN_lt wf (p := p) (by omega) (by omega)
  unfold wX3_readEmpire
  refine c_exp_y wf rc hp 2 h0 ⟨vp_in_nI (n := p + 1) (by omega) (by decide), bn_f (c_ne wf (p := p + 1) (by omega) 44 h1) ?_⟩
  unfold wX3_readEmpire_47
  refine bn_f (c_ne wf (p := p + 1) (by omega) 44 h1) ?_
  unfold wX3_readEmpire_73
  exact c_exp_n wf rc (p := p + 1) (by omega) he 44 h1 (c_exp_B (c_num_B (by omega) (c_exp_B (c_num_B (by omega) (bn_f (show ¬ (1 : Int32) = 0 by decide) kk)))))
theorem c_emp_F2 (wf : wfN x) (rc : rNc x ki st nu na) (hp : p ≤ nN x) (he : e.1 ≠ 1) (hE : E ≤ 6) (h0 : kN x p = 2) (h1 : kN x (p + 1) = 44) (h2 : kN x (p + 2) ≠ 3) {K : (Int32 × Int32 × Int32 × Int32 × Int32 × (Nat → Int64) × (Nat → Int32) × (Nat → Int32)) → Prop} (kk : K (nI (p + 2), 48, 1, nI (sN x (p + 2)), nI E, cn, Fr, To)) : wX3_readEmpire ki st nu na (nI (nN x + 1)) (nI p) (nI (kN x p)) e.1 e.2 (nI E) cn Fr To K := by
  have n4 := wf.1
  have lt0 := kN_lt wf (p := p) (by omega) (by omega)
  have lt1 := kN_lt wf (p := p + 1) (by omega) (by omega)
  refine c_emp_head wf rc hp hE h0 h1 ?_
  unfold wX3_readEmpire_73
  refine c_exp_y wf rc (p := p + 1) (by omega) 44 h1 ?_
  exact c_exp_n wf rc (p := p + 2) (by omega) (ck_ne (by decide) (ck_ne (by decide) he)) 3 h2 (c_num_B (by omega) (c_exp_B (c_num_B (by omega) (bn_f (show ¬ (1 : Int32) = 0 by decide) kk))))
theorem c_emp_F3 (wf : wfN x) (rc : rNc x ki st nu na) (hp : p ≤ nN x) (he : e.1 ≠ 1) (hE : E ≤ 6) (h0 : kN x p = 2) (h1 : kN x (p + 1) = 44) (h2 : kN x (p + 2) = 3) (h3 : kN x (p + 3) ≠ 45) {K : (Int32 × Int32 × Int32 × Int32 × Int32 × (Nat → Int64) × (Nat → Int32) × (Nat → Int32)) → Prop} (kk : K (nI (p + 3), 48, 1, nI (sN x (p + 3)), nI E, cn, Fr, To)) : wX3_readEmpire ki st nu na (nI (nN x + 1)) (nI p) (nI (kN x p)) e.1 e.2 (nI E) cn Fr To K := by
  have n4 := wf.1
  have lt0 := kN_lt wf (p := p) (by omega) (by omega)
  have lt1 := kN_lt wf (p := p + 1) (by omega) (by omega)
  have lt2 := kN_lt wf (p := p + 2) (by omega) (by omega)
  refine c_emp_head wf rc hp hE h0 h1 ?_
  unfold wX3_readEmpire_73
  refine c_exp_y wf rc (p := p + 1) (by omega) 44 h1 ?_
  refine c_exp_y wf rc (p := p + 2) (by omega) 3 h2 ?_
  exact c_num_n wf rc (p := p + 3) (by omega) h3 (ck_ne (by decide) (ck_ne (by decide) he)) (c_exp_B (c_num_B (by omega) (bn_f (show ¬ (1 : Int32) = 0 by decide) kk)))
theorem c_emp_F4 (wf : wfN x) (rc : rNc x ki st nu na) (hp : p ≤ nN x) (he : e.1 ≠ 1) (hE : E ≤ 6) (h0 : kN x p = 2) (h1 : kN x (p + 1) = 44) (h2 : kN x (p + 2) = 3) (h3 : kN x (p + 3) = 45) (h4 : kN x (p + 4) ≠ 4) {K : (Int32 × Int32 × Int32 × Int32 × Int32 × (Nat → Int64) × (Nat → Int32) × (Nat → Int32)) → Prop} (kk : K (nI (p + 4), 48, 1, nI (sN x (p + 4)), nI E, cn, Fr, To)) : wX3_readEmpire ki st nu na (nI (nN x + 1)) (nI p) (nI (kN x p)) e.1 e.2 (nI E) cn Fr To K := by
  have n4 := wf.1
  have lt0 := kN_lt wf (p := p) (by omega) (by omega)
  have lt1 := kN_lt wf (p := p + 1) (by omega) (by omega)
  have lt2 := kN_lt wf (p := p + 2) (by omega) (by omega)
  have lt3 := kN_lt wf (p := p + 3) (by omega) (by omega)
  refine c_emp_head wf rc hp hE h0 h1 ?_
  unfold wX3_readEmpire_73
  refine c_exp_y wf rc (p := p + 1) (by omega) 44 h1 ?_
  refine c_exp_y wf rc (p := p + 2) (by omega) 3 h2 ?_
  refine c_numE wf rc (p := p + 3) (by omega) h3 0 999 ?_
  exact c_exp_n wf rc (p := p + 4) (by omega) (ck_ne (by decide) (ck_ne (by decide) (ck_ne (by decide) he))) 4 h4 (c_num_B (by omega) (bn_f (show ¬ (1 : Int32) = 0 by decide) kk))
theorem c_emp_F5 (wf : wfN x) (rc : rNc x ki st nu na) (hp : p ≤ nN x) (he : e.1 ≠ 1) (hE : E ≤ 6) (h0 : kN x p = 2) (h1 : kN x (p + 1) = 44) (h2 : kN x (p + 2) = 3) (h3 : kN x (p + 3) = 45) (h4 : kN x (p + 4) = 4) (h5 : kN x (p + 5) ≠ 45) {K : (Int32 × Int32 × Int32 × Int32 × Int32 × (Nat → Int64) × (Nat → Int32) × (Nat → Int32)) → Prop} (kk : K (nI (p + 5), 48, 1, nI (sN x (p + 5)), nI E, cn, Fr, To)) : wX3_readEmpire ki st nu na (nI (nN x + 1)) (nI p) (nI (kN x p)) e.1 e.2 (nI E) cn Fr To K := by
  have n4 := wf.1
  have lt0 := kN_lt wf (p := p) (by omega) (by omega)
  have lt1 := kN_lt wf (p := p + 1) (by omega) (by omega)
  have lt2 := kN_lt wf (p := p + 2) (by omega) (by omega)
  have lt3 := kN_lt wf (p := p + 3) (by omega) (by omega)
  have lt4 := kN_lt wf (p := p + 4) (by omega) (by omega)
  refine c_emp_head wf rc hp hE h0 h1 ?_
  unfold wX3_readEmpire_73
  refine c_exp_y wf rc (p := p + 1) (by omega) 44 h1 ?_
  refine c_exp_y wf rc (p := p + 2) (by omega) 3 h2 ?_
  refine c_numE wf rc (p := p + 3) (by omega) h3 0 999 ?_
  refine c_exp_y wf rc (p := p + 4) (by omega) 4 h4 ?_
  exact c_num_n wf rc (p := p + 5) (by omega) h5 (ck_ne (by decide) (ck_ne (by decide) (ck_ne (by decide) he))) (bn_f (show ¬ (1 : Int32) = 0 by decide) kk)
theorem c_start (wf : wfN x) (rc : rNc x ki st nu na) (hp : p < nN x) (hF : F ≤ 24) {K : (Int32 × Int32 × Int32 × Int32) → Prop} (kk : K (nI (p + 1), nI (kN x (p + 1)), (ck x (decide (24 ≤ F)) 4 p e).1, (ck x (decide (24 ≤ F)) 4 p e).2)) : wX3_startFind ki st (nI (nN x + 1)) (nI p) (nI (kN x p)) e.1 e.2 (nI F) K := by
  have n4 := wf.1
  unfold wX3_startFind
  refine pk_lt F 24 (fun z => ?_) (fun z => ?_)
  · rw [ck_f (decide_eq_false (by omega))] at kk
    exact c_adv wf rc hp kk
  · rw [decide_eq_true z] at kk
    unfold wX3_complain
    refine ⟨fun v => ?_, fun v => ⟨vp_in_nI (by omega) (by decide), ?_⟩⟩
    · rw [ck_err  v] at kk
      exact c_adv wf rc hp kk
    · unfold ck at kk
      rw [if_pos ⟨v, rfl⟩] at kk
      rw [nI_clamp (by omega), (rc p (by omega)).2.1]
      exact c_adv wf rc hp kk
theorem c_addFind {c : Nat} (hF : F < 24) (hc : c < 80) {b : Bool} {d : Int32} {K : (Int32 × (Nat → Int32) × (Nat → Int32) × (Nat → Int32) × (Nat → Int32)) → Prop} (kk : K (nI (F + 1), upd Co F (zB b), upd Cu F (nI c), upd De F d, upd Fi c (nI F))) : wX7_addFind (nI F) Co Cu De Fi (zB b) (nI c) d K := by
  unfold wX7_addFind wX7_isCushion
  refine br_f (nI_ge (b := 24) hF (by decide)) (br_f (nI_pos (by omega)) (br_f (nI_ge (b := 80) hc (by decide)) (br_f (by decide) ⟨vp_in_nI hF (by decide), vp_in_nI hF (by decide), vp_in_nI hF (by decide), vp_in_nI hc (by decide), ?_⟩)))
  have e : vp_nar .boolean (zB b) = zB b := by cases b <;> decide
  rw [e, nI_1, nI_clamp (by omega), nI_clamp (by omega)]
  exact kk
/-- the faults of a coin's line, of crumbs', of a spring's -/
def eCo (x : Tn) (N M F : Nat) (f : Nat → Bool) (p : Nat) (e : Int32 × Int32) : Int32 × Int32 := ck x (decide (vN x (p + 6) < 0) || decide (999 < vN x (p + 6))) 5 (p + 6) (ePl x N M f (p + 1) (ck x (decide (24 ≤ F)) 4 p e))
def eCr (x : Tn) (N M E F : Nat) (cn : Nat → Int64) (f : Nat → Bool) (p : Nat) (e : Int32 × Int32) : Int32 × Int32 := erF x (bdN x E cn) (p + 6) (p + 7) (ePl x N M f (p + 1) (ck x (decide (24 ≤ F)) 4 p e))
theorem c_coin_S (wf : wfN x) (rc : rNc x ki st nu na) (hp : p ≤ nN x) (hF : F ≤ 24) (hN : 2 ≤ N ∧ N ≤ 8) (hM : 2 ≤ M ∧ M ≤ 10) (rfi : ∀ c, c < 80 → Fi c = fI (fi c)) (hfi : ∀ c f, c < 80 → fi c = some f → f < 2 ^ 31) (rsp : rB 80 Sp sp) (h0 : kN x p = 5) (h1 : kN x (p + 1) = 8) (h2 : kN x (p + 2) = 45) (h3 : kN x (p + 3) = 34) (h4 : kN x (p + 4) = 45) (h5 : kN x (p + 5) = 9) (h6 : kN x (p + 6) = 45) {K : (Int32 × Int32 × Int32 × Int32 × Int32 × (Nat → Int32) × (Nat → Int32) × (Nat → Int32) × (Nat → Int32)) → Prop}
    (k0 : (eCo x N M F (tkf fi sp false) p e).1 = 0 → F < 24 → vN x (p + 1 + 1) < N → vN x (p + 1 + 3) < M → tkf fi sp false (vN x (p + 1 + 1) * 10 + vN x (p + 1 + 3)) = false → K (nI (p + 7), nI (kN x (p + 7)), (eCo x N M F (tkf fi sp false) p e).1, (eCo x N M F (tkf fi sp false) p e).2, nI (F + 1), upd Co F 1, upd Cu F (nI (vN x (p + 1 + 1) * 10 + vN x (p + 1 + 3))), upd De F (nI (vN x (p + 6))), upd Fi (vN x (p + 1 + 1) * 10 + vN x (p + 1 + 3)) (nI F))) (k1 : (eCo x N M F (tkf fi sp false) p e).1 ≠ 0 → K (nI (p + 7), nI (kN x (p + 7)), (eCo x N M F (tkf fi sp false) p e).1, (eCo x N M F (tkf fi sp false) p e).2, nI F, Co, Cu, De, Fi)) : wX3_readCoin ki st nu (nI (nN x + 1)) (nI p) (nI (kN x p)) e.1 e.2 (nI N) (nI M) (nI F) Co Cu De Fi Sp K := by
  have n4 := wf.1
  have lt0 := kN_lt wf (p := p) (by omega) (by omega)
  have lt1 := kN_lt wf (p := p + 1) (by omega) (by omega)
  have lt2 := kN_lt wf (p := p + 2) (by omega) (by omega)
  have lt3 := kN_lt wf (p := p + 3) (by omega) (by omega)
  have lt4 := kN_lt wf (p := p + 4) (by omega) (by omega)
  have lt5 := kN_lt wf (p := p + 5) (by omega) (by omega)
  have lt6 := kN_lt wf (p := p + 6) (by omega) (by omega)
  unfold wX3_readCoin
  have key : ∀ e2 e3 : Int32 × Int32, e2 = ePl x N M (tkf fi sp false) (p + 1) (ck x (decide (24 ≤ F)) 4 p e) → e3 = ck x (decide (vN x (p + 6) < 0) || decide (999 < vN x (p + 6))) 5 (p + 6) e2 → e3 = eCo x N M F (tkf fi sp false) p e ∧ (e3.1 = 0 → e2.1 = 0 ∧ F < 24 ∧ vN x (p + 1 + 1) < N ∧ vN x (p + 1 + 3) < M ∧ tkf fi sp false (vN x (p + 1 + 1) * 10 + vN x (p + 1 + 3)) = false) := by
    intro e2 e3 q2 q3
    refine ⟨by rw [q3, q2]; rfl, fun z3 => ?_⟩
    rw [q3] at z3
    have a := ck_0 (by decide) z3
    have a1 := a.1
    rw [q2] at a1
    have b := ePl_0 a1
    have d := ck_0 (by decide) b.1
    have f24 : F < 24 := by
      have := of_decide_eq_false d.2.1
      omega
    exact ⟨a.1, f24, b.2.2.1, b.2.2.2.1, b.2.2.2.2⟩
  refine c_start wf rc lt0 hF ?_
  refine c_placeX false (fi := fi) (sp := sp) wf rc (p := p + 1) (by omega) hN hM rfi hfi rsp h1 h2 h3 h4 (fun e2 q2 => ⟨fun z => ?_, fun z => ?_⟩)
  · refine c_exp_y wf rc (p := p + 5) (by omega) 9 h5 (c_numX wf rc (p := p + 6) (by omega) h6 0 999 (fun e3 q3 => ?_))
    obtain ⟨s1, s2⟩ := key e2 e3 q2 q3
    rw [← s1] at k0 k1
    refine ⟨fun y => k1 y, fun y => ?_⟩
    have y : e3.1 = 0 := y
    obtain ⟨t1, t2, t3, t4, t5⟩ := s2 y
    exact c_addFind (b := true) t2 (by omega) (k0 y t2 t3 t4 t5)
  · refine c_exp_y wf rc (p := p + 5) (by omega) 9 h5 (c_numX wf rc (p := p + 6) (by omega) h6 0 999 (fun e3 q3 => ?_))
    obtain ⟨s1, s2⟩ := key e2 e3 q2 q3
    rw [← s1] at k0 k1
    exact ⟨fun y => k1 y, fun y => absurd (s2 y).1 z⟩
theorem c_coin_F1 (wf : wfN x) (rc : rNc x ki st nu na) (hp : p ≤ nN x) (he : e.1 ≠ 1) (hF : F ≤ 24) (hN : 2 ≤ N ∧ N ≤ 8) (hM : 2 ≤ M ∧ M ≤ 10) (rfi : ∀ c, c < 80 → Fi c = fI (fi c)) (hfi : ∀ c f, c < 80 → fi c = some f → f < 2 ^ 31) (rsp : rB 80 Sp sp) (h0 : kN x p = 5) (h1 : kN x (p + 1) ≠ 8) {K : (Int32 × Int32 × Int32 × Int32 × Int32 × (Nat → Int32) × (Nat → Int32) × (Nat → Int32) × (Nat → Int32)) → Prop} (kk : K (nI (p + 1), 48, 1, nI (sN x (p + 1)), nI F, Co, Cu, De, Fi)) : wX3_readCoin ki st nu (nI (nN x + 1)) (nI p) (nI (kN x p)) e.1 e.2 (nI N) (nI M) (nI F) Co Cu De Fi Sp K := by
  have n4 := wf.1
  have lt0 := kN_lt wf (p := p) (by omega) (by omega)
  unfold wX3_readCoin
  refine c_start wf rc lt0 hF ?_
  exact c_place_F0 (b := false) (fi := fi) (sp := sp) wf rc (p := p + 1) (by omega) (ck_ne (by decide) he) hN hM rfi hfi rsp h1 (c_exp_B (c_num_B (by omega) (bn_f (show ¬ (1 : Int32) = 0 by decide) kk)))
theorem c_coin_F2 (wf : wfN x) (rc : rNc x ki st nu na) (hp : p ≤ nN x) (he : e.1 ≠ 1) (hF : F ≤ 24) (hN : 2 ≤ N ∧ N ≤ 8) (hM : 2 ≤ M ∧ M ≤ 10) (rfi : ∀ c, c < 80 → Fi c = fI (fi c)) (hfi : ∀ c f, c < 80 → fi c = some f → f < 2 ^ 31) (rsp : rB 80 Sp sp) (h0 : kN x p = 5) (h1 : kN x (p + 1) = 8) (h2 : kN x (p + 2) ≠ 45) {K : (Int32 × Int32 × Int32 × Int32 × Int32 × (Nat → Int32) × (Nat → Int32) × (Nat → Int32) × (Nat → Int32)) → Prop} (kk : K (nI (p + 2), 48, 1, nI (sN x (p + 2)), nI F, Co, Cu, De, Fi)) : wX3_readCoin ki st nu (nI (nN x + 1)) (nI p) (nI (kN x p)) e.1 e.2 (nI N) (nI M) (nI F) Co Cu De Fi Sp K := by
  have n4 := wf.1
  have lt0 := kN_lt wf (p := p) (by omega) (by omega)
  have lt1 := kN_lt wf (p := p + 1) (by omega) (by omega)
  unfold wX3_readCoin
  refine c_start wf rc lt0 hF ?_
  exact c_place_F1 (b := false) (fi := fi) (sp := sp) wf rc (p := p + 1) (by omega) (ck_ne (by decide) he) hN hM rfi hfi rsp h1 h2 (c_exp_B (c_num_B (by omega) (bn_f (show ¬ (1 : Int32) = 0 by decide) kk)))
theorem c_coin_F3 (wf : wfN x) (rc : rNc x ki st nu na) (hp : p ≤ nN x) (he : e.1 ≠ 1) (hF : F ≤ 24) (hN : 2 ≤ N ∧ N ≤ 8) (hM : 2 ≤ M ∧ M ≤ 10) (rfi : ∀ c, c < 80 → Fi c = fI (fi c)) (hfi : ∀ c f, c < 80 → fi c = some f → f < 2 ^ 31) (rsp : rB 80 Sp sp) (h0 : kN x p = 5) (h1 : kN x (p + 1) = 8) (h2 : kN x (p + 2) = 45) (h3 : kN x (p + 3) ≠ 34) {K : (Int32 × Int32 × Int32 × Int32 × Int32 × (Nat → Int32) × (Nat → Int32) × (Nat → Int32) × (Nat → Int32)) → Prop} (kk : K (nI (p + 3), 48, 1, nI (sN x (p + 3)), nI F, Co, Cu, De, Fi)) : wX3_readCoin ki st nu (nI (nN x + 1)) (nI p) (nI (kN x p)) e.1 e.2 (nI N) (nI M) (nI F) Co Cu De Fi Sp K := by
  have n4 := wf.1
  have lt0 := kN_lt wf (p := p) (by omega) (by omega)
  have lt1 := kN_lt wf (p := p + 1) (by omega) (by omega)
  have lt2 := kN_lt wf (p := p + 2) (by omega) (by omega)
  unfold wX3_readCoin
  refine c_start wf rc lt0 hF ?_
  exact c_place_F2 (b := false) (fi := fi) (sp := sp) wf rc (p := p + 1) (by omega) (ck_ne (by decide) he) hN hM rfi hfi rsp h1 h2 h3 (c_exp_B (c_num_B (by omega) (bn_f (show ¬ (1 : Int32) = 0 by decide) kk)))
theorem c_coin_F4 (wf : wfN x) (rc : rNc x ki st nu na) (hp : p ≤ nN x) (he : e.1 ≠ 1) (hF : F ≤ 24) (hN : 2 ≤ N ∧ N ≤ 8) (hM : 2 ≤ M ∧ M ≤ 10) (rfi : ∀ c, c < 80 → Fi c = fI (fi c)) (hfi : ∀ c f, c < 80 → fi c = some f → f < 2 ^ 31) (rsp : rB 80 Sp sp) (h0 : kN x p = 5) (h1 : kN x (p + 1) = 8) (h2 : kN x (p + 2) = 45) (h3 : kN x (p + 3) = 34) (h4 : kN x (p + 4) ≠ 45) {K : (Int32 × Int32 × Int32 × Int32 × Int32 × (Nat → Int32) × (Nat → Int32) × (Nat → Int32) × (Nat → Int32)) → Prop} (kk : K (nI (p + 4), 48, 1, nI (sN x (p + 4)), nI F, Co, Cu, De, Fi)) : wX3_readCoin ki st nu (nI (nN x + 1)) (nI p) (nI (kN x p)) e.1 e.2 (nI N) (nI M) (nI F) Co Cu De Fi Sp K := by
  have n4 := wf.1
  have lt0 := kN_lt wf (p := p) (by omega) (by omega)
  have lt1 := kN_lt wf (p := p + 1) (by omega) (by omega)
  have lt2 := kN_lt wf (p := p + 2) (by omega) (by omega)
  have lt3 := kN_lt wf (p := p + 3) (by omega) (by omega)
  unfold wX3_readCoin
  refine c_start wf rc lt0 hF ?_
  exact c_place_F3 (b := false) (fi := fi) (sp := sp) wf rc (p := p + 1) (by omega) (ck_ne (by decide) he) hN hM rfi hfi rsp h1 h2 h3 h4 (c_exp_B (c_num_B (by omega) (bn_f (show ¬ (1 : Int32) = 0 by decide) kk)))
theorem c_coin_F5 (wf : wfN x) (rc : rNc x ki st nu na) (hp : p ≤ nN x) (he : e.1 ≠ 1) (hF : F ≤ 24) (hN : 2 ≤ N ∧ N ≤ 8) (hM : 2 ≤ M ∧ M ≤ 10) (rfi : ∀ c, c < 80 → Fi c = fI (fi c)) (hfi : ∀ c f, c < 80 → fi c = some f → f < 2 ^ 31) (rsp : rB 80 Sp sp) (h0 : kN x p = 5) (h1 : kN x (p + 1) = 8) (h2 : kN x (p + 2) = 45) (h3 : kN x (p + 3) = 34) (h4 : kN x (p + 4) = 45) (h5 : kN x (p + 5) ≠ 9) {K : (Int32 × Int32 × Int32 × Int32 × Int32 × (Nat → Int32) × (Nat → Int32) × (Nat → Int32) × (Nat → Int32)) → Prop} (kk : K (nI (p + 5), 48, 1, nI (sN x (p + 5)), nI F, Co, Cu, De, Fi)) : wX3_readCoin ki st nu (nI (nN x + 1)) (nI p) (nI (kN x p)) e.1 e.2 (nI N) (nI M) (nI F) Co Cu De Fi Sp K := by
  have n4 := wf.1
  have lt0 := kN_lt wf (p := p) (by omega) (by omega)
  have lt1 := kN_lt wf (p := p + 1) (by omega) (by omega)
  have lt2 := kN_lt wf (p := p + 2) (by omega) (by omega)
  have lt3 := kN_lt wf (p := p + 3) (by omega) (by omega)
  have lt4 := kN_lt wf (p := p + 4) (by omega) (by omega)
  unfold wX3_readCoin
  refine c_start wf rc lt0 hF ?_
  exact c_placeE false (fi := fi) (sp := sp) wf rc (p := p + 1) (by omega) hN hM rfi hfi rsp h1 h2 h3 h4 (fun z => c_exp_n wf rc (p := p + 5) (by omega) (ePl_ne (ck_ne (by decide) he)) 9 h5 (c_num_B (by omega) (bn_f (show ¬ (1 : Int32) = 0 by decide) kk))) (fun z => c_exp_n wf rc (p := p + 5) (by omega) (ePl_ne (ck_ne (by decide) he)) 9 h5 (c_num_B (by omega) (bn_f (show ¬ (1 : Int32) = 0 by decide) kk)))
theorem c_coin_F6 (wf : wfN x) (rc : rNc x ki st nu na) (hp : p ≤ nN x) (he : e.1 ≠ 1) (hF : F ≤ 24) (hN : 2 ≤ N ∧ N ≤ 8) (hM : 2 ≤ M ∧ M ≤ 10) (rfi : ∀ c, c < 80 → Fi c = fI (fi c)) (hfi : ∀ c f, c < 80 → fi c = some f → f < 2 ^ 31) (rsp : rB 80 Sp sp) (h0 : kN x p = 5) (h1 : kN x (p + 1) = 8) (h2 : kN x (p + 2) = 45) (h3 : kN x (p + 3) = 34) (h4 : kN x (p + 4) = 45) (h5 : kN x (p + 5) = 9) (h6 : kN x (p + 6) ≠ 45) {K : (Int32 × Int32 × Int32 × Int32 × Int32 × (Nat → Int32) × (Nat → Int32) × (Nat → Int32) × (Nat → Int32)) → Prop} (kk : K (nI (p + 6), 48, 1, nI (sN x (p + 6)), nI F, Co, Cu, De, Fi)) : wX3_readCoin ki st nu (nI (nN x + 1)) (nI p) (nI (kN x p)) e.1 e.2 (nI N) (nI M) (nI F) Co Cu De Fi Sp K := by
  have n4 := wf.1
  have lt0 := kN_lt wf (p := p) (by omega) (by omega)
  have lt1 := kN_lt wf (p := p + 1) (by omega) (by omega)
  have lt2 := kN_lt wf (p := p + 2) (by omega) (by omega)
  have lt3 := kN_lt wf (p := p + 3) (by omega) (by omega)
  have lt4 := kN_lt wf (p := p + 4) (by omega) (by omega)
  have lt5 := kN_lt wf (p := p + 5) (by omega) (by omega)
  unfold wX3_readCoin
  refine c_start wf rc lt0 hF ?_
  exact c_placeE false (fi := fi) (sp := sp) wf rc (p := p + 1) (by omega) hN hM rfi hfi rsp h1 h2 h3 h4 (fun z => c_exp_y wf rc (p := p + 5) (by omega) 9 h5 (c_num_n wf rc (p := p + 6) (by omega) h6 (ePl_ne (ck_ne (by decide) he)) (bn_f (show ¬ (1 : Int32) = 0 by decide) kk))) (fun z => c_exp_y wf rc (p := p + 5) (by omega) 9 h5 (c_num_n wf rc (p := p + 6) (by omega) h6 (ePl_ne (ck_ne (by decide) he)) (bn_f (show ¬ (1 : Int32) = 0 by decide) kk)))
theorem c_crumb_S (wf : wfN x) (rc : rNc x ki st nu na) (hp : p ≤ nN x) (hE : E ≤ 6) (hF : F ≤ 24) (hN : 2 ≤ N ∧ N ≤ 8) (hM : 2 ≤ M ∧ M ≤ 10) (rfi : ∀ c, c < 80 → Fi c = fI (fi c)) (hfi : ∀ c f, c < 80 → fi c = some f → f < 2 ^ 31) (rsp : rB 80 Sp sp) (h0 : kN x p = 6) (h1 : kN x (p + 1) = 8) (h2 : kN x (p + 2) = 45) (h3 : kN x (p + 3) = 34) (h4 : kN x (p + 4) = 45) (h5 : kN x (p + 5) = 10) (h6 : kN x (p + 6) = 44) {K : (Int32 × Int32 × Int32 × Int32 × Int32 × (Nat → Int32) × (Nat → Int32) × (Nat → Int32) × (Nat → Int32)) → Prop}
    (k0 : (eCr x N M E F cn (tkf fi sp false) p e).1 = 0 → F < 24 → vN x (p + 1 + 1) < N → vN x (p + 1 + 3) < M → tkf fi sp false (vN x (p + 1 + 1) * 10 + vN x (p + 1 + 3)) = false → K (nI (p + 7), nI (kN x (p + 7)), (eCr x N M E F cn (tkf fi sp false) p e).1, (eCr x N M E F cn (tkf fi sp false) p e).2, nI (F + 1), upd Co F 0, upd Cu F (nI (vN x (p + 1 + 1) * 10 + vN x (p + 1 + 3))), upd De F (fI (emF cn (cN x (p + 6)) E)), upd Fi (vN x (p + 1 + 1) * 10 + vN x (p + 1 + 3)) (nI F))) (k1 : (eCr x N M E F cn (tkf fi sp false) p e).1 ≠ 0 → K (nI (p + 7), nI (kN x (p + 7)), (eCr x N M E F cn (tkf fi sp false) p e).1, (eCr x N M E F cn (tkf fi sp false) p e).2, nI F, Co, Cu, De, Fi)) : wX3_readCrumbs ki st nu na (nI (nN x + 1)) (nI p) (nI (kN x p)) e.1 e.2 (nI N) (nI M) (nI E) (nI F) cn Co Cu De Fi Sp K := by
  have n4 := wf.1
  have lt0 := kN_lt wf (p := p) (by omega) (by omega)
  have lt1 := kN_lt wf (p := p + 1) (by omega) (by omega)
  have lt2 := kN_lt wf (p := p + 2) (by omega) (by omega)
  have lt3 := kN_lt wf (p := p + 3) (by omega) (by omega)
  have lt4 := kN_lt wf (p := p + 4) (by omega) (by omega)
  have lt5 := kN_lt wf (p := p + 5) (by omega) (by omega)
  have lt6 := kN_lt wf (p := p + 6) (by omega) (by omega)
  unfold wX3_readCrumbs
  have key : ∀ e2 e3 : Int32 × Int32, e2 = ePl x N M (tkf fi sp false) (p + 1) (ck x (decide (24 ≤ F)) 4 p e) → e3 = erF x (bdN x E cn) (p + 6) (p + 7) e2 → e3 = eCr x N M E F cn (tkf fi sp false) p e ∧ (e3.1 = 0 → e2.1 = 0 ∧ F < 24 ∧ vN x (p + 1 + 1) < N ∧ vN x (p + 1 + 3) < M ∧ tkf fi sp false (vN x (p + 1 + 1) * 10 + vN x (p + 1 + 3)) = false) := by
    intro e2 e3 q2 q3
    refine ⟨by rw [q3, q2]; rfl, fun z3 => ?_⟩
    rw [q3] at z3
    have a := erF_0 z3
    have a1 := a.1
    rw [q2] at a1
    have b := ePl_0 a1
    have d := ck_0 (by decide) b.1
    have f24 : F < 24 := by
      have := of_decide_eq_false d.2.1
      omega
    exact ⟨a.1, f24, b.2.2.1, b.2.2.2.1, b.2.2.2.2⟩
  refine c_start wf rc lt0 hF ?_
  refine c_placeX false (fi := fi) (sp := sp) wf rc (p := p + 1) (by omega) hN hM rfi hfi rsp h1 h2 h3 h4 (fun e2 q2 => ⟨fun z => ?_, fun z => ?_⟩)
  · refine c_exp_y wf rc (p := p + 5) (by omega) 10 h5 (c_knownX wf rc (p := p + 6) (by omega) h6 hE (fun e3 q3 => ?_))
    obtain ⟨s1, s2⟩ := key e2 e3 q2 q3
    rw [← s1] at k0 k1
    refine ⟨fun y => k1 y, fun y => ?_⟩
    have y : e3.1 = 0 := y
    obtain ⟨t1, t2, t3, t4, t5⟩ := s2 y
    exact c_addFind (b := false) t2 (by omega) (k0 y t2 t3 t4 t5)
  · refine c_exp_y wf rc (p := p + 5) (by omega) 10 h5 (c_knownX wf rc (p := p + 6) (by omega) h6 hE (fun e3 q3 => ?_))
    obtain ⟨s1, s2⟩ := key e2 e3 q2 q3
    rw [← s1] at k0 k1
    exact ⟨fun y => k1 y, fun y => absurd (s2 y).1 z⟩
theorem c_crumb_F1 (wf : wfN x) (rc : rNc x ki st nu na) (hp : p ≤ nN x) (he : e.1 ≠ 1) (hE : E ≤ 6) (hF : F ≤ 24) (hN : 2 ≤ N ∧ N ≤ 8) (hM : 2 ≤ M ∧ M ≤ 10) (rfi : ∀ c, c < 80 → Fi c = fI (fi c)) (hfi : ∀ c f, c < 80 → fi c = some f → f < 2 ^ 31) (rsp : rB 80 Sp sp) (h0 : kN x p = 6) (h1 : kN x (p + 1) ≠ 8) {K : (Int32 × Int32 × Int32 × Int32 × Int32 × (Nat → Int32) × (Nat → Int32) × (Nat → Int32) × (Nat → Int32)) → Prop} (kk : K (nI (p + 1), 48, 1, nI (sN x (p + 1)), nI F, Co, Cu, De, Fi)) : wX3_readCrumbs ki st nu na (nI (nN x + 1)) (nI p) (nI (kN x p)) e.1 e.2 (nI N) (nI M) (nI E) (nI F) cn Co Cu De Fi Sp K := by
  have n4 := wf.1
  have lt0 := kN_lt wf (p := p) (by omega) (by omega)
  unfold wX3_readCrumbs
  refine c_start wf rc lt0 hF ?_
  exact c_place_F0 (b := false) (fi := fi) (sp := sp) wf rc (p := p + 1) (by omega) (ck_ne (by decide) he) hN hM rfi hfi rsp h1 (c_exp_B (c_known_B (bn_f (show ¬ (1 : Int32) = 0 by decide) kk)))
theorem c_crumb_F2 (wf : wfN x) (rc : rNc x ki st nu na) (hp : p ≤ nN x) (he : e.1 ≠ 1) (hE : E ≤ 6) (hF : F ≤ 24) (hN : 2 ≤ N ∧ N ≤ 8) (hM : 2 ≤ M ∧ M ≤ 10) (rfi : ∀ c, c < 80 → Fi c = fI (fi c)) (hfi : ∀ c f, c < 80 → fi c = some f → f < 2 ^ 31) (rsp : rB 80 Sp sp) (h0 : kN x p = 6) (h1 : kN x (p + 1) = 8) (h2 : kN x (p + 2) ≠ 45) {K : (Int32 × Int32 × Int32 × Int32 × Int32 × (Nat → Int32) × (Nat → Int32) × (Nat → Int32) × (Nat → Int32)) → Prop} (kk : K (nI (p + 2), 48, 1, nI (sN x (p + 2)), nI F, Co, Cu, De, Fi)) : wX3_readCrumbs ki st nu na (nI (nN x + 1)) (nI p) (nI (kN x p)) e.1 e.2 (nI N) (nI M) (nI E) (nI F) cn Co Cu De Fi Sp K := by
  have n4 := wf.1
  have lt0 := kN_lt wf (p := p) (by omega) (by omega)
  have lt1 := kN_lt wf (p := p + 1) (by omega) (by omega)
  unfold wX3_readCrumbs
  refine c_start wf rc lt0 hF ?_
  exact c_place_F1 (b := false) (fi := fi) (sp := sp) wf rc (p := p + 1) (by omega) (ck_ne (by decide) he) hN hM rfi hfi rsp h1 h2 (c_exp_B (c_known_B (bn_f (show ¬ (1 : Int32) = 0 by decide) kk)))
theorem c_crumb_F3 (wf : wfN x) (rc : rNc x ki st nu na) (hp : p ≤ nN x) (he : e.1 ≠ 1) (hE : E ≤ 6) (hF : F ≤ 24) (hN : 2 ≤ N ∧ N ≤ 8) (hM : 2 ≤ M ∧ M ≤ 10) (rfi : ∀ c, c < 80 → Fi c = fI (fi c)) (hfi : ∀ c f, c < 80 → fi c = some f → f < 2 ^ 31) (rsp : rB 80 Sp sp) (h0 : kN x p = 6) (h1 : kN x (p + 1) = 8) (h2 : kN x (p + 2) = 45) (h3 : kN x (p + 3) ≠ 34) {K : (Int32 × Int32 × Int32 × Int32 × Int32 × (Nat → Int32) × (Nat → Int32) × (Nat → Int32) × (Nat → Int32)) → Prop} (kk : K (nI (p + 3), 48, 1, nI (sN x (p + 3)), nI F, Co, Cu, De, Fi)) : wX3_readCrumbs ki st nu na (nI (nN x + 1)) (nI p) (nI (kN x p)) e.1 e.2 (nI N) (nI M) (nI E) (nI F) cn Co Cu De Fi Sp K := by
  have n4 := wf.1
  have lt0 := kN_lt wf (p := p) (by omega) (by omega)
  have lt1 := kN_lt wf (p := p + 1) (by omega) (by omega)
  have lt2 := kN_lt wf (p := p + 2) (by omega) (by omega)
  unfold wX3_readCrumbs
  refine c_start wf rc lt0 hF ?_
  exact c_place_F2 (b := false) (fi := fi) (sp := sp) wf rc (p := p + 1) (by omega) (ck_ne (by decide) he) hN hM rfi hfi rsp h1 h2 h3 (c_exp_B (c_known_B (bn_f (show ¬ (1 : Int32) = 0 by decide) kk)))
theorem c_crumb_F4 (wf : wfN x) (rc : rNc x ki st nu na) (hp : p ≤ nN x) (he : e.1 ≠ 1) (hE : E ≤ 6) (hF : F ≤ 24) (hN : 2 ≤ N ∧ N ≤ 8) (hM : 2 ≤ M ∧ M ≤ 10) (rfi : ∀ c, c < 80 → Fi c = fI (fi c)) (hfi : ∀ c f, c < 80 → fi c = some f → f < 2 ^ 31) (rsp : rB 80 Sp sp) (h0 : kN x p = 6) (h1 : kN x (p + 1) = 8) (h2 : kN x (p + 2) = 45) (h3 : kN x (p + 3) = 34) (h4 : kN x (p + 4) ≠ 45) {K : (Int32 × Int32 × Int32 × Int32 × Int32 × (Nat → Int32) × (Nat → Int32) × (Nat → Int32) × (Nat → Int32)) → Prop} (kk : K (nI (p + 4), 48, 1, nI (sN x (p + 4)), nI F, Co, Cu, De, Fi)) : wX3_readCrumbs ki st nu na (nI (nN x + 1)) (nI p) (nI (kN x p)) e.1 e.2 (nI N) (nI M) (nI E) (nI F) cn Co Cu De Fi Sp K := by
  have n4 := wf.1
  have lt0 := kN_lt wf (p := p) (by omega) (by omega)
  have lt1 := kN_lt wf (p := p + 1) (by omega) (by omega)
  have lt2 := kN_lt wf (p := p + 2) (by omega) (by omega)
  have lt3 := kN_lt wf (p := p + 3) (by omega) (by omega)
  unfold wX3_readCrumbs
  refine c_start wf rc lt0 hF ?_
  exact c_place_F3 (b := false) (fi := fi) (sp := sp) wf rc (p := p + 1) (by omega) (ck_ne (by decide) he) hN hM rfi hfi rsp h1 h2 h3 h4 (c_exp_B (c_known_B (bn_f (show ¬ (1 : Int32) = 0 by decide) kk)))
theorem c_crumb_F5 (wf : wfN x) (rc : rNc x ki st nu na) (hp : p ≤ nN x) (he : e.1 ≠ 1) (hE : E ≤ 6) (hF : F ≤ 24) (hN : 2 ≤ N ∧ N ≤ 8) (hM : 2 ≤ M ∧ M ≤ 10) (rfi : ∀ c, c < 80 → Fi c = fI (fi c)) (hfi : ∀ c f, c < 80 → fi c = some f → f < 2 ^ 31) (rsp : rB 80 Sp sp) (h0 : kN x p = 6) (h1 : kN x (p + 1) = 8) (h2 : kN x (p + 2) = 45) (h3 : kN x (p + 3) = 34) (h4 : kN x (p + 4) = 45) (h5 : kN x (p + 5) ≠ 10) {K : (Int32 × Int32 × Int32 × Int32 × Int32 × (Nat → Int32) × (Nat → Int32) × (Nat → Int32) × (Nat → Int32)) → Prop} (kk : K (nI (p + 5), 48, 1, nI (sN x (p + 5)), nI F, Co, Cu, De, Fi)) : wX3_readCrumbs ki st nu na (nI (nN x + 1)) (nI p) (nI (kN x p)) e.1 e.2 (nI N) (nI M) (nI E) (nI F) cn Co Cu De Fi Sp K := by
  have n4 := wf.1
  have lt0 := kN_lt wf (p := p) (by omega) (by omega)
  have lt1 := kN_lt wf (p := p + 1) (by omega) (by omega)
  have lt2 := kN_lt wf (p := p + 2) (by omega) (by omega)
  have lt3 := kN_lt wf (p := p + 3) (by omega) (by omega)
  have lt4 := kN_lt wf (p := p + 4) (by omega) (by omega)
  unfold wX3_readCrumbs
  refine c_start wf rc lt0 hF ?_
  exact c_placeE false (fi := fi) (sp := sp) wf rc (p := p + 1) (by omega) hN hM rfi hfi rsp h1 h2 h3 h4 (fun z => c_exp_n wf rc (p := p + 5) (by omega) (ePl_ne (ck_ne (by decide) he)) 10 h5 (c_known_B (bn_f (show ¬ (1 : Int32) = 0 by decide) kk))) (fun z => c_exp_n wf rc (p := p + 5) (by omega) (ePl_ne (ck_ne (by decide) he)) 10 h5 (c_known_B (bn_f (show ¬ (1 : Int32) = 0 by decide) kk)))
theorem c_crumb_F6 (wf : wfN x) (rc : rNc x ki st nu na) (hp : p ≤ nN x) (he : e.1 ≠ 1) (hE : E ≤ 6) (hF : F ≤ 24) (hN : 2 ≤ N ∧ N ≤ 8) (hM : 2 ≤ M ∧ M ≤ 10) (rfi : ∀ c, c < 80 → Fi c = fI (fi c)) (hfi : ∀ c f, c < 80 → fi c = some f → f < 2 ^ 31) (rsp : rB 80 Sp sp) (h0 : kN x p = 6) (h1 : kN x (p + 1) = 8) (h2 : kN x (p + 2) = 45) (h3 : kN x (p + 3) = 34) (h4 : kN x (p + 4) = 45) (h5 : kN x (p + 5) = 10) (h6 : kN x (p + 6) ≠ 44) {K : (Int32 × Int32 × Int32 × Int32 × Int32 × (Nat → Int32) × (Nat → Int32) × (Nat → Int32) × (Nat → Int32)) → Prop} (kk : K (nI (p + 6), 48, 1, nI (sN x (p + 6)), nI F, Co, Cu, De, Fi)) : wX3_readCrumbs ki st nu na (nI (nN x + 1)) (nI p) (nI (kN x p)) e.1 e.2 (nI N) (nI M) (nI E) (nI F) cn Co Cu De Fi Sp K := by
  have n4 := wf.1
  have lt0 := kN_lt wf (p := p) (by omega) (by omega)
  have lt1 := kN_lt wf (p := p + 1) (by omega) (by omega)
  have lt2 := kN_lt wf (p := p + 2) (by omega) (by omega)
  have lt3 := kN_lt wf (p := p + 3) (by omega) (by omega)
  have lt4 := kN_lt wf (p := p + 4) (by omega) (by omega)
  have lt5 := kN_lt wf (p := p + 5) (by omega) (by omega)
  unfold wX3_readCrumbs
  refine c_start wf rc lt0 hF ?_
  exact c_placeE false (fi := fi) (sp := sp) wf rc (p := p + 1) (by omega) hN hM rfi hfi rsp h1 h2 h3 h4 (fun z => c_exp_y wf rc (p := p + 5) (by omega) 10 h5 (c_known_n wf rc (p := p + 6) (by omega) h6 (ePl_ne (ck_ne (by decide) he)) (bn_f (show ¬ (1 : Int32) = 0 by decide) kk))) (fun z => c_exp_y wf rc (p := p + 5) (by omega) 10 h5 (c_known_n wf rc (p := p + 6) (by omega) h6 (ePl_ne (ck_ne (by decide) he)) (bn_f (show ¬ (1 : Int32) = 0 by decide) kk)))
theorem c_spring_S (wf : wfN x) (rc : rNc x ki st nu na) (hp : p ≤ nN x) (hN : 2 ≤ N ∧ N ≤ 8) (hM : 2 ≤ M ∧ M ≤ 10) (rfi : ∀ c, c < 80 → Fi c = fI (fi c)) (hfi : ∀ c f, c < 80 → fi c = some f → f < 2 ^ 31) (rsp : rB 80 Sp sp) (h0 : kN x p = 7) (h1 : kN x (p + 1) = 8) (h2 : kN x (p + 2) = 45) (h3 : kN x (p + 3) = 34) (h4 : kN x (p + 4) = 45) {K : (Int32 × Int32 × Int32 × Int32 × (Nat → Int32)) → Prop}
    (k0 : (ePl x N M (tkf fi sp true) (p + 1) e).1 = 0 → vN x (p + 1 + 1) < N → vN x (p + 1 + 3) < M → K (nI (p + 5), nI (kN x (p + 5)), (ePl x N M (tkf fi sp true) (p + 1) e).1, (ePl x N M (tkf fi sp true) (p + 1) e).2, upd Sp (vN x (p + 1 + 1) * 10 + vN x (p + 1 + 3)) 1)) (k1 : (ePl x N M (tkf fi sp true) (p + 1) e).1 ≠ 0 → K (nI (p + 5), nI (kN x (p + 5)), (ePl x N M (tkf fi sp true) (p + 1) e).1, (ePl x N M (tkf fi sp true) (p + 1) e).2, Sp)) : wX3_readSpring ki st nu (nI (nN x + 1)) (nI p) (nI (kN x p)) e.1 e.2 (nI N) (nI M) Fi Sp K := by
  have n4 := wf.1
  have lt0 := kN_lt wf (p := p) (by omega) (by omega)
  have lt1 := kN_lt wf (p := p + 1) (by omega) (by omega)
  have lt2 := kN_lt wf (p := p + 2) (by omega) (by omega)
  have lt3 := kN_lt wf (p := p + 3) (by omega) (by omega)
  have lt4 := kN_lt wf (p := p + 4) (by omega) (by omega)
  unfold wX3_readSpring
  refine c_exp_y wf rc hp 7 h0 ?_
  refine c_placeE true (fi := fi) (sp := sp) wf rc (p := p + 1) (by omega) hN hM rfi hfi rsp h1 h2 h3 h4 (fun z => ⟨fun y => absurd z y, fun y => ?_⟩) (fun z => ⟨fun y => k1 z, fun y => absurd y z⟩)
  have b := ePl_0 z
  have b1 : vN x (p + 1 + 1) < N := b.2.2.1
  have b2 : vN x (p + 1 + 3) < M := b.2.2.2.1
  have c8 : vN x (p + 1 + 1) * 10 + vN x (p + 1 + 3) < 80 := by omega
  show wX7_addSpring Sp (nI (vN x (p + 1 + 1) * 10 + vN x (p + 1 + 3))) _
  unfold wX7_addSpring wX7_isCushion
  refine br_f (nI_pos (by omega)) (br_f (nI_ge (b := 80) c8 (by decide)) (br_f (by decide) ⟨vp_in_nI c8 (by decide), ?_⟩))
  rw [nI_clamp (by omega)]
  exact k0 z b1 b2
theorem c_spring_F1 (wf : wfN x) (rc : rNc x ki st nu na) (hp : p ≤ nN x) (he : e.1 ≠ 1) (hN : 2 ≤ N ∧ N ≤ 8) (hM : 2 ≤ M ∧ M ≤ 10) (rfi : ∀ c, c < 80 → Fi c = fI (fi c)) (hfi : ∀ c f, c < 80 → fi c = some f → f < 2 ^ 31) (rsp : rB 80 Sp sp) (h0 : kN x p = 7) (h1 : kN x (p + 1) ≠ 8) {K : (Int32 × Int32 × Int32 × Int32 × (Nat → Int32)) → Prop} (kk : K (nI (p + 1), 48, 1, nI (sN x (p + 1)), Sp)) : wX3_readSpring ki st nu (nI (nN x + 1)) (nI p) (nI (kN x p)) e.1 e.2 (nI N) (nI M) Fi Sp K := by
  have n4 := wf.1
  have lt0 := kN_lt wf (p := p) (by omega) (by omega)
  unfold wX3_readSpring
  refine c_exp_y wf rc hp 7 h0 ?_
  exact c_place_F0 (b := true) (fi := fi) (sp := sp) wf rc (p := p + 1) (by omega) he hN hM rfi hfi rsp h1 (bn_f (show ¬ (1 : Int32) = 0 by decide) kk)
theorem c_spring_F2 (wf : wfN x) (rc : rNc x ki st nu na) (hp : p ≤ nN x) (he : e.1 ≠ 1) (hN : 2 ≤ N ∧ N ≤ 8) (hM : 2 ≤ M ∧ M ≤ 10) (rfi : ∀ c, c < 80 → Fi c = fI (fi c)) (hfi : ∀ c f, c < 80 → fi c = some f → f < 2 ^ 31) (rsp : rB 80 Sp sp) (h0 : kN x p = 7) (h1 : kN x (p + 1) = 8) (h2 : kN x (p + 2) ≠ 45) {K : (Int32 × Int32 × Int32 × Int32 × (Nat → Int32)) → Prop} (kk : K (nI (p + 2), 48, 1, nI (sN x (p + 2)), Sp)) : wX3_readSpring ki st nu (nI (nN x + 1)) (nI p) (nI (kN x p)) e.1 e.2 (nI N) (nI M) Fi Sp K := by
  have n4 := wf.1
  have lt0 := kN_lt wf (p := p) (by omega) (by omega)
  have lt1 := kN_lt wf (p := p + 1) (by omega) (by omega)
  unfold wX3_readSpring
  refine c_exp_y wf rc hp 7 h0 ?_
  exact c_place_F1 (b := true) (fi := fi) (sp := sp) wf rc (p := p + 1) (by omega) he hN hM rfi hfi rsp h1 h2 (bn_f (show ¬ (1 : Int32) = 0 by decide) kk)
theorem c_spring_F3 (wf : wfN x) (rc : rNc x ki st nu na) (hp : p ≤ nN x) (he : e.1 ≠ 1) (hN : 2 ≤ N ∧ N ≤ 8) (hM : 2 ≤ M ∧ M ≤ 10) (rfi : ∀ c, c < 80 → Fi c = fI (fi c)) (hfi : ∀ c f, c < 80 → fi c = some f → f < 2 ^ 31) (rsp : rB 80 Sp sp) (h0 : kN x p = 7) (h1 : kN x (p + 1) = 8) (h2 : kN x (p + 2) = 45) (h3 : kN x (p + 3) ≠ 34) {K : (Int32 × Int32 × Int32 × Int32 × (Nat → Int32)) → Prop} (kk : K (nI (p + 3), 48, 1, nI (sN x (p + 3)), Sp)) : wX3_readSpring ki st nu (nI (nN x + 1)) (nI p) (nI (kN x p)) e.1 e.2 (nI N) (nI M) Fi Sp K := by
  have n4 := wf.1
  have lt0 := kN_lt wf (p := p) (by omega) (by omega)
  have lt1 := kN_lt wf (p := p + 1) (by omega) (by omega)
  have lt2 := kN_lt wf (p := p + 2) (by omega) (by omega)
  unfold wX3_readSpring
  refine c_exp_y wf rc hp 7 h0 ?_
  exact c_place_F2 (b := true) (fi := fi) (sp := sp) wf rc (p := p + 1) (by omega) he hN hM rfi hfi rsp h1 h2 h3 (bn_f (show ¬ (1 : Int32) = 0 by decide) kk)
theorem c_spring_F4 (wf : wfN x) (rc : rNc x ki st nu na) (hp : p ≤ nN x) (he : e.1 ≠ 1) (hN : 2 ≤ N ∧ N ≤ 8) (hM : 2 ≤ M ∧ M ≤ 10) (rfi : ∀ c, c < 80 → Fi c = fI (fi c)) (hfi : ∀ c f, c < 80 → fi c = some f → f < 2 ^ 31) (rsp : rB 80 Sp sp) (h0 : kN x p = 7) (h1 : kN x (p + 1) = 8) (h2 : kN x (p + 2) = 45) (h3 : kN x (p + 3) = 34) (h4 : kN x (p + 4) ≠ 45) {K : (Int32 × Int32 × Int32 × Int32 × (Nat → Int32)) → Prop} (kk : K (nI (p + 4), 48, 1, nI (sN x (p + 4)), Sp)) : wX3_readSpring ki st nu (nI (nN x + 1)) (nI p) (nI (kN x p)) e.1 e.2 (nI N) (nI M) Fi Sp K := by
  have n4 := wf.1
  have lt0 := kN_lt wf (p := p) (by omega) (by omega)
  have lt1 := kN_lt wf (p := p + 1) (by omega) (by omega)
  have lt2 := kN_lt wf (p := p + 2) (by omega) (by omega)
  have lt3 := kN_lt wf (p := p + 3) (by omega) (by omega)
  unfold wX3_readSpring
  refine c_exp_y wf rc hp 7 h0 ?_
  exact c_place_F3 (b := true) (fi := fi) (sp := sp) wf rc (p := p + 1) (by omega) he hN hM rfi hfi rsp h1 h2 h3 h4 (bn_f (show ¬ (1 : Int32) = 0 by decide) kk)
def eSz (x : Tn) (p : Nat) (e : Int32 × Int32) : Int32 × Int32 := ck x (decide (vN x (p + 3) < 2) || decide (10 < vN x (p + 3))) 5 (p + 3) (ck x (decide (vN x (p + 1) < 2) || decide (8 < vN x (p + 1))) 5 (p + 1) e)
theorem c_size_S (wf : wfN x) (rc : rNc x ki st nu na) (hp : p ≤ nN x) (h0 : kN x p = 0) (h1 : kN x (p + 1) = 45) (h2 : kN x (p + 2) = 1) (h3 : kN x (p + 3) = 45) (h4 : kN x (p + 4) = 33) {K : (Int32 × Int32 × Int32 × Int32 × Int32 × Int32) → Prop} (k0 : (eSz x p e).1 = 0 → K (nI (p + 5), nI (kN x (p + 5)), (eSz x p e).1, (eSz x p e).2, nI (vN x (p + 1)), nI (vN x (p + 3)))) (k1 : (eSz x p e).1 ≠ 0 → K (nI (p + 5), nI (kN x (p + 5)), (eSz x p e).1, (eSz x p e).2, nI N, nI M)) : wX3_readSize ki st nu (nI (nN x + 1)) (nI p) (nI (kN x p)) e.1 e.2 (nI N) (nI M) K := by
  have n4 := wf.1
  have lt0 := kN_lt wf (p := p) (by omega) (by omega)
  have lt1 := kN_lt wf (p := p + 1) (by omega) (by omega)
  have lt2 := kN_lt wf (p := p + 2) (by omega) (by omega)
  have lt3 := kN_lt wf (p := p + 3) (by omega) (by omega)
  have lt4 := kN_lt wf (p := p + 4) (by omega) (by omega)
  unfold wX3_readSize
  exact c_exp_y wf rc hp 0 h0 (c_numE wf rc (p := p + 1) (by omega) h1 2 8 (c_exp_y wf rc (p := p + 2) (by omega) 1 h2 (c_numE wf rc (p := p + 3) (by omega) h3 2 10 (c_exp_y wf rc (p := p + 4) (by omega) 33 h4 ⟨fun z => k1 z, fun z => k0 z⟩))))
theorem c_size_F1 (wf : wfN x) (rc : rNc x ki st nu na) (hp : p ≤ nN x) (he : e.1 ≠ 1) (h0 : kN x p = 0) (h1 : kN x (p + 1) ≠ 45) {K : (Int32 × Int32 × Int32 × Int32 × Int32 × Int32) → Prop} (kk : K (nI (p + 1), 48, 1, nI (sN x (p + 1)), nI N, nI M)) : wX3_readSize ki st nu (nI (nN x + 1)) (nI p) (nI (kN x p)) e.1 e.2 (nI N) (nI M) K := by
  have n4 := wf.1
  have lt0 := kN_lt wf (p := p) (by omega) (by omega)
  unfold wX3_readSize
  exact c_exp_y wf rc hp 0 h0 (c_num_n wf rc (p := p + 1) (by omega) h1 he (c_exp_B (c_num_B (by omega) (c_exp_B (bn_f (show ¬ (1 : Int32) = 0 by decide) kk)))))
theorem c_size_F2 (wf : wfN x) (rc : rNc x ki st nu na) (hp : p ≤ nN x) (he : e.1 ≠ 1) (h0 : kN x p = 0) (h1 : kN x (p + 1) = 45) (h2 : kN x (p + 2) ≠ 1) {K : (Int32 × Int32 × Int32 × Int32 × Int32 × Int32) → Prop} (kk : K (nI (p + 2), 48, 1, nI (sN x (p + 2)), nI N, nI M)) : wX3_readSize ki st nu (nI (nN x + 1)) (nI p) (nI (kN x p)) e.1 e.2 (nI N) (nI M) K := by
  have n4 := wf.1
  have lt0 := kN_lt wf (p := p) (by omega) (by omega)
  have lt1 := kN_lt wf (p := p + 1) (by omega) (by omega)
  unfold wX3_readSize
  exact c_exp_y wf rc hp 0 h0 (c_numE wf rc (p := p + 1) (by omega) h1 2 8 (c_exp_n wf rc (p := p + 2) (by omega) (ck_ne (by decide) he) 1 h2 (c_num_B (by omega) (c_exp_B (bn_f (show ¬ (1 : Int32) = 0 by decide) kk)))))
theorem c_size_F3 (wf : wfN x) (rc : rNc x ki st nu na) (hp : p ≤ nN x) (he : e.1 ≠ 1) (h0 : kN x p = 0) (h1 : kN x (p + 1) = 45) (h2 : kN x (p + 2) = 1) (h3 : kN x (p + 3) ≠ 45) {K : (Int32 × Int32 × Int32 × Int32 × Int32 × Int32) → Prop} (kk : K (nI (p + 3), 48, 1, nI (sN x (p + 3)), nI N, nI M)) : wX3_readSize ki st nu (nI (nN x + 1)) (nI p) (nI (kN x p)) e.1 e.2 (nI N) (nI M) K := by
  have n4 := wf.1
  have lt0 := kN_lt wf (p := p) (by omega) (by omega)
  have lt1 := kN_lt wf (p := p + 1) (by omega) (by omega)
  have lt2 := kN_lt wf (p := p + 2) (by omega) (by omega)
  unfold wX3_readSize
  exact c_exp_y wf rc hp 0 h0 (c_numE wf rc (p := p + 1) (by omega) h1 2 8 (c_exp_y wf rc (p := p + 2) (by omega) 1 h2 (c_num_n wf rc (p := p + 3) (by omega) h3 (ck_ne (by decide) he) (c_exp_B (bn_f (show ¬ (1 : Int32) = 0 by decide) kk)))))
theorem c_size_F4 (wf : wfN x) (rc : rNc x ki st nu na) (hp : p ≤ nN x) (he : e.1 ≠ 1) (h0 : kN x p = 0) (h1 : kN x (p + 1) = 45) (h2 : kN x (p + 2) = 1) (h3 : kN x (p + 3) = 45) (h4 : kN x (p + 4) ≠ 33) {K : (Int32 × Int32 × Int32 × Int32 × Int32 × Int32) → Prop} (kk : K (nI (p + 4), 48, 1, nI (sN x (p + 4)), nI N, nI M)) : wX3_readSize ki st nu (nI (nN x + 1)) (nI p) (nI (kN x p)) e.1 e.2 (nI N) (nI M) K := by
  have n4 := wf.1
  have lt0 := kN_lt wf (p := p) (by omega) (by omega)
  have lt1 := kN_lt wf (p := p + 1) (by omega) (by omega)
  have lt2 := kN_lt wf (p := p + 2) (by omega) (by omega)
  have lt3 := kN_lt wf (p := p + 3) (by omega) (by omega)
  unfold wX3_readSize
  exact c_exp_y wf rc hp 0 h0 (c_numE wf rc (p := p + 1) (by omega) h1 2 8 (c_exp_y wf rc (p := p + 2) (by omega) 1 h2 (c_numE wf rc (p := p + 3) (by omega) h3 2 10 (c_exp_n wf rc (p := p + 4) (by omega) (ck_ne (by decide) (ck_ne (by decide) he)) 33 h4 (bn_f (show ¬ (1 : Int32) = 0 by decide) kk)))))
end CLINE
