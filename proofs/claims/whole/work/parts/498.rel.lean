/-! what is told grows, line by line -/
def tNewE (t : Tl) (a b : Int32) : Tl := ((tN t, tM t, tE t + 1, tF t), tCu t, tFi t, tSp t, tCo t, tDe t, va_up (tFr t) (tE t) a, va_up (tTo t) (tE t) b)
def tNewF (t : Tl) (co : Bool) (c : Nat) (d : Int32) : Tl := ((tN t, tM t, tE t, tF t + 1), va_up (tCu t) (tF t) c, va_up (tFi t) c (some (tF t)), tSp t, va_up (tCo t) (tF t) co, va_up (tDe t) (tF t) d, tFr t, tTo t)
def tNewS (t : Tl) (c : Nat) : Tl := ((tN t, tM t, tE t, tF t), tCu t, tFi t, va_up (tSp t) c true, tCo t, tDe t, tFr t, tTo t)
def tNewZ (t : Tl) (n m : Nat) : Tl := ((n, m, tE t, tF t), tCu t, tFi t, tSp t, tCo t, tDe t, tFr t, tTo t)
theorem vu_eq {α : Type} {f : Nat → α} {k : Nat} {v : α} : va_up f k v k = v := if_pos rfl
theorem vu_ne {α : Type} {f : Nat → α} {k j : Nat} {v : α} (h : j ≠ k) : va_up f k v j = f j := if_neg h
theorem wfT_E {t : Tl} (w : wfT t) (h : tE t < 6) (a b : Int32) : wfT (tNewE t a b) := by
  obtain ⟨w1, w2, w3, w4, w5, w6, w7⟩ := w
  refine ⟨w1, w2, by show tE t + 1 ≤ 6; omega, w4, w5, w6, fun f hf hc => ?_⟩
  obtain ⟨e, he, hd⟩ := w7 f hf hc
  exact ⟨e, by show e < tE t + 1; omega, hd⟩
theorem wfT_F {t : Tl} (w : wfT t) (h : tF t < 24) {co : Bool} {c : Nat} {d : Int32} (hc : c % 10 < tM t) (hc2 : c / 10 < tN t) (hn : tFi t c = none) (hd : co = false → ∃ e, e < tE t ∧ d = nI e) : wfT (tNewF t co c d) := by
  obtain ⟨w1, w2, w3, w4, w5, w6, w7⟩ := w
  have c80 : c < 80 := by omega
  refine ⟨w1, w2, w3, by show tF t + 1 ≤ 24; omega, fun f hf => ?_, fun c' f hc' hfi => ?_, fun f hf hco => ?_⟩
  · have hf : f < tF t + 1 := hf
    show va_up (tCu t) (tF t) c f < 80 ∧ va_up (tFi t) c (some (tF t)) (va_up (tCu t) (tF t) c f) = some f ∧ va_up (tCu t) (tF t) c f % 10 < tM t ∧ va_up (tCu t) (tF t) c f / 10 < tN t
    by_cases e : f = tF t
    · subst e
      rw [vu_eq, vu_eq]
      exact ⟨c80, rfl, hc, hc2⟩
    · have t1 := w5 f (by omega)
      rw [vu_ne e, vu_ne (fun z => by rw [z, hn] at t1; exact absurd t1.2.1 (by simp))]
      exact t1
  · have hfi : va_up (tFi t) c (some (tF t)) c' = some f := hfi
    show f < tF t + 1 ∧ va_up (tCu t) (tF t) c f = c'
    by_cases e : c' = c
    · subst e
      rw [vu_eq] at hfi
      have hfi := Option.some.inj hfi
      subst hfi
      exact ⟨by omega, vu_eq⟩
    · rw [vu_ne e] at hfi
      have t1 := w6 c' f hc' hfi
      exact ⟨by omega, by rw [vu_ne (by omega)]; exact t1.2⟩
  · have hf : f < tF t + 1 := hf
    have hco : va_up (tCo t) (tF t) co f = false := hco
    show ∃ e, e < tE t ∧ va_up (tDe t) (tF t) d f = nI e
    by_cases e : f = tF t
    · subst e
      rw [vu_eq] at hco ⊢
      exact hd hco
    · rw [vu_ne e] at hco ⊢
      exact w7 f (by omega) hco
theorem wfT_S {t : Tl} (w : wfT t) (c : Nat) : wfT (tNewS t c) := w
theorem wfT_Z {t : Tl} (w : wfT t) (h : tF t = 0) {n m : Nat} (hn : 2 ≤ n ∧ n ≤ 8) (hm : 2 ≤ m ∧ m ≤ 10) : wfT (tNewZ t n m) := by
  obtain ⟨w1, w2, w3, w4, w5, w6, w7⟩ := w
  refine ⟨hn, hm, w3, w4, fun f hf => ?_, w6, w7⟩
  have hf : f < tF t := hf
  omega
section RT
variable {t : Tl} {s st e f : Int32} {co cu de fi sp fr to : Nat → Int32}
theorem rT_E (r : rT t s st e f co cu de fi sp fr to) (a b : Int32) : rT (tNewE t a b) s st (nI (tE t + 1)) f co cu de fi sp (upd fr (tE t) a) (upd to (tE t) b) := by
  obtain ⟨⟨r1, r2, r3, r4⟩, r5, r6, r7, r8, r9, r10, r11⟩ := r
  refine ⟨⟨r1, r2, rfl, r4⟩, r5, r6, r7, r8, r9, fun i hi => ?_, fun i hi => ?_⟩
  · have hi : i < tE t + 1 := hi
    show upd fr (tE t) a i = va_up (tFr t) (tE t) a i
    by_cases z : i = tE t
    · subst z; rw [us, vu_eq]
    · rw [un z, vu_ne z]; exact r10 i (by omega)
  · have hi : i < tE t + 1 := hi
    show upd to (tE t) b i = va_up (tTo t) (tE t) b i
    by_cases z : i = tE t
    · subst z; rw [us, vu_eq]
    · rw [un z, vu_ne z]; exact r11 i (by omega)
theorem rT_F (r : rT t s st e f co cu de fi sp fr to) (b : Bool) (c : Nat) (d : Int32) : rT (tNewF t b c d) s st e (nI (tF t + 1)) (upd co (tF t) (zB b)) (upd cu (tF t) (nI c)) (upd de (tF t) d) (upd fi c (nI (tF t))) sp fr to := by
  obtain ⟨⟨r1, r2, r3, r4⟩, r5, r6, r7, r8, r9, r10, r11⟩ := r
  refine ⟨⟨r1, r2, r3, rfl⟩, fun i hi => ?_, fun i hi => ?_, fun i hi => ?_, fun i hi => ?_, r9, r10, r11⟩
  · have hi : i < tF t + 1 := hi
    show upd co (tF t) (zB b) i = zB (va_up (tCo t) (tF t) b i)
    by_cases z : i = tF t
    · subst z; rw [us, vu_eq]
    · rw [un z, vu_ne z]; exact r5 i (by omega)
  · have hi : i < tF t + 1 := hi
    show upd cu (tF t) (nI c) i = nI (va_up (tCu t) (tF t) c i)
    by_cases z : i = tF t
    · subst z; rw [us, vu_eq]
    · rw [un z, vu_ne z]; exact r6 i (by omega)
  · have hi : i < tF t + 1 := hi
    show upd de (tF t) d i = va_up (tDe t) (tF t) d i
    by_cases z : i = tF t
    · subst z; rw [us, vu_eq]
    · rw [un z, vu_ne z]; exact r7 i (by omega)
  · show upd fi c (nI (tF t)) i = fI (va_up (tFi t) c (some (tF t)) i)
    by_cases z : i = c
    · subst z; rw [us, vu_eq]; rfl
    · rw [un z, vu_ne z]; exact r8 i hi
theorem rT_S (r : rT t s st e f co cu de fi sp fr to) (c : Nat) : rT (tNewS t c) s st e f co cu de fi (upd sp c 1) fr to := by
  obtain ⟨r1, r5, r6, r7, r8, r9, r10, r11⟩ := r
  refine ⟨r1, r5, r6, r7, r8, fun i hi => ?_, r10, r11⟩
  show upd sp c 1 i = zB (va_up (tSp t) c true i)
  by_cases z : i = c
  · subst z; rw [us, vu_eq]; rfl
  · rw [un z, vu_ne z]; exact r9 i hi
theorem rT_Z (r : rT t s st e f co cu de fi sp fr to) (n m : Nat) : rT (tNewZ t n m) (nI n) (nI m) e f co cu de fi sp fr to := by
  obtain ⟨⟨r1, r2, r3, r4⟩, r5, r6, r7, r8, r9, r10, r11⟩ := r
  exact ⟨⟨rfl, rfl, r3, r4⟩, r5, r6, r7, r8, r9, r10, r11⟩
end RT
theorem okD_up {t t' : Tl} (h : tE t ≤ tE t') {k : Nat} {d : Int32} (o : okD t k d) : okD t' k d := fun z => by
  obtain ⟨e, he, hd⟩ := o z
  exact ⟨e, by omega, hd⟩
theorem rPc_up {t t' : Tl} (h : tE t ≤ tE t') {pl : Pn} {a b : Int32} {c d e f g : Nat → Int32} (r : rPc t pl a b c d e f g) : rPc t' pl a b c d e f g := ⟨r.1, r.2.1, fun i hi => ⟨(r.2.2 i hi).1, (r.2.2 i hi).2.1, okD_up h (r.2.2 i hi).2.2⟩⟩
/-- a name more -/
theorem emF_add {nm : Nat → Int64} {v a : Int64} {E : Nat} : emF (vp_updL nm E a) v (E + 1) = match emF nm v E with | some e => some e | none => if a = v then some E else none := by
  have same : ∀ n, n ≤ E → emF (vp_updL nm E a) v n = emF nm v n := by
    intro n
    induction n with
    | zero => intro _; rfl
    | succ n ih =>
      intro h
      unfold emF
      rw [ih (by omega), upL_ne (by omega)]
  show (match emF (vp_updL nm E a) v E with | some e => some e | none => if vp_updL nm E a E = v then some E else none) = _
  rw [same E (Nat.le_refl E), upL_eq]
/-- steps put behind, as they are read afterwards -/
def pNew (pl : Pn) (kd : Nat) (x : Tn) (E : Nat) (cn : Nat → Int64) (L1 L2 : List (Nat × Nat)) : Pn := ((pO pl + 1, pS pl + (L1 ++ L2).length), (fun i => if i < pS pl then pK pl i else ((L1 ++ L2).getD (i - pS pl) (0, 0)).1), (fun i => if i < pS pl then pD pl i else cDt x E cn ((L1 ++ L2).getD (i - pS pl) (0, 0))), va_up (pKd pl) (pO pl) kd, va_up (pE1 pl) (pO pl) (pS pl + L1.length), va_up (pE2 pl) (pO pl) (pS pl + (L1 ++ L2).length))
theorem tyR_L {ks : Nat → Nat} : ∀ (L : List (Nat × Nat)) (s : Nat) (bs : List Bool), (∀ j, j < L.length → ks (s + j) = (L.getD j (0, 0)).1) → tyR ks L.length s bs = tyL L bs := by
  intro L
  induction L with
  | nil => intro s bs h; rfl
  | cons a r ih =>
    intro s bs h
    have h0 := h 0 (by simp)
    rw [Nat.add_zero] at h0
    have h0 : ks s = a.1 := h0
    show tyR ks (r.length + 1) s bs = tyL (a :: r) bs
    unfold tyR tyL
    rw [h0]
    rcases tyS a.1 bs with _ | bs'
    · rfl
    · refine ih (s + 1) bs' (fun j hj => ?_)
      have := h (j + 1) (by simpa using hj)
      rw [show s + 1 + j = s + (j + 1) by omega, this]; rfl
theorem tyR_cong {ks ks' : Nat → Nat} : ∀ (n s : Nat) (bs : List Bool), (∀ j, j < n → ks (s + j) = ks' (s + j)) → tyR ks n s bs = tyR ks' n s bs := by
  intro n
  induction n with
  | zero => intro s bs h; rfl
  | succ n ih =>
    intro s bs h
    have h0 := h 0 (by omega)
    rw [Nat.add_zero] at h0
    unfold tyR
    rw [h0]
    rcases tyS (ks' s) bs with _ | bs'
    · rfl
    · refine ih (s + 1) bs' (fun j hj => ?_)
      have := h (j + 1) (by omega)
      rw [show s + 1 + j = s + (j + 1) by omega]; exact this
theorem getD_app {L1 L2 : List (Nat × Nat)} {d : Nat × Nat} {j : Nat} : (L1 ++ L2).getD (L1.length + j) d = L2.getD j d := by
  induction L1 with
  | nil => simp
  | cons a r ih =>
    show (a :: (r ++ L2)).getD (r.length + 1 + j) d = _
    rw [show r.length + 1 + j = (r.length + j) + 1 by omega]
    exact ih
theorem getD_lo {L1 L2 : List (Nat × Nat)} {d : Nat × Nat} : ∀ {j : Nat}, j < L1.length → (L1 ++ L2).getD j d = L1.getD j d := by
  induction L1 with
  | nil => intro j h; exact absurd h (Nat.not_lt_zero j)
  | cons a r ih =>
    intro j h
    cases j with
    | zero => rfl
    | succ j => exact ih (by simpa using h)
theorem getD_mem {L : List (Nat × Nat)} {d : Nat × Nat} : ∀ {j : Nat}, j < L.length → L.getD j d ∈ L := by
  induction L with
  | nil => intro j h; exact absurd h (Nat.not_lt_zero j)
  | cons a r ih =>
    intro j h
    cases j with
    | zero => exact List.mem_cons_self ..
    | succ j => exact List.mem_cons_of_mem _ (ih (by simpa using h))
theorem wfP_new {pl : Pn} {kd : Nat} {x : Tn} {E : Nat} {cn : Nat → Int64} {L1 L2 : List (Nat × Nat)} (w : wfP pl) (h16 : pO pl < 16) (h400 : pS pl + (L1 ++ L2).length ≤ 400) (hk : kd = 11 ∨ kd = 12 ∨ kd = 13) (hb : be0 pl (pO pl) = pS pl) (t1 : tyL L1 [] = some [false]) (t2 : L2 = [] ∨ tyL L2 [] = some [true]) : wfP (pNew pl kd x E cn L1 L2) ∧ be0 (pNew pl kd x E cn L1 L2) (pO pl + 1) = pS pl + (L1 ++ L2).length := by
  obtain ⟨w1, w2, w3⟩ := w
  have hO : pO (pNew pl kd x E cn L1 L2) = pO pl + 1 := rfl
  have e1o : ∀ o, o ≠ pO pl → pE1 (pNew pl kd x E cn L1 L2) o = pE1 pl o := fun o h => vu_ne h
  have e2o : ∀ o, o ≠ pO pl → pE2 (pNew pl kd x E cn L1 L2) o = pE2 pl o := fun o h => vu_ne h
  have e1n : pE1 (pNew pl kd x E cn L1 L2) (pO pl) = pS pl + L1.length := vu_eq
  have e2n : pE2 (pNew pl kd x E cn L1 L2) (pO pl) = pS pl + (L1 ++ L2).length := vu_eq
  have kdo : ∀ o, o ≠ pO pl → pKd (pNew pl kd x E cn L1 L2) o = pKd pl o := fun o h => vu_ne h
  have kdn : pKd (pNew pl kd x E cn L1 L2) (pO pl) = kd := vu_eq
  have bo : ∀ o, o ≤ pO pl → be0 (pNew pl kd x E cn L1 L2) o = be0 pl o := by
    intro o ho
    unfold be0
    by_cases z : o = 0
    · rw [if_pos z, if_pos z]
    · rw [if_neg z, if_neg z, e2o _ (by omega)]
  have klo : ∀ i, i < pS pl → pK (pNew pl kd x E cn L1 L2) i = pK pl i := fun i h => if_pos h
  have khi : ∀ j, pK (pNew pl kd x E cn L1 L2) (pS pl + j) = ((L1 ++ L2).getD j (0, 0)).1 := by
    intro j
    show (if pS pl + j < pS pl then pK pl (pS pl + j) else ((L1 ++ L2).getD (pS pl + j - pS pl) (0, 0)).1) = _
    rw [if_neg (by omega), show pS pl + j - pS pl = j by omega]
  have ll : (L1 ++ L2).length = L1.length + L2.length := List.length_append
  refine ⟨⟨by rw [hO]; omega, h400, fun o ho => ?_⟩, ?_⟩
  · rw [hO] at ho
    by_cases z : o = pO pl
    · subst z
      rw [kdn, bo _ (Nat.le_refl _), e1n, e2n, hb]
      have hS : pS (pNew pl kd x E cn L1 L2) = pS pl + (L1 ++ L2).length := rfl
      refine ⟨hk, ⟨by omega, by omega, by rw [hS]; exact Nat.le_refl _⟩, ?_, ?_⟩
      · rw [show pS pl + L1.length - pS pl = L1.length by omega, tyR_L L1 (pS pl) [] (fun j hj => by rw [khi, getD_lo hj])]
        exact t1
      · rcases t2 with t2 | t2
        · left
          rw [t2, List.append_nil]
        · right
          rw [show pS pl + (L1 ++ L2).length - (pS pl + L1.length) = L2.length by omega, tyR_L L2 (pS pl + L1.length) [] (fun j hj => by rw [Nat.add_assoc, khi, getD_app])]
          exact t2
    · have t := w3 o (by omega)
      rw [kdo _ z, bo _ (by omega), e1o _ z, e2o _ z]
      have hS : pS (pNew pl kd x E cn L1 L2) = pS pl + (L1 ++ L2).length := rfl
      refine ⟨t.1, ⟨t.2.1.1, t.2.1.2.1, by rw [hS]; omega⟩, ?_, ?_⟩
      · rw [tyR_cong (ks' := pK pl) _ _ _ (fun j hj => klo _ (by omega))]
        exact t.2.2.1
      · rcases t.2.2.2 with q | q
        · exact Or.inl q
        · right
          rw [tyR_cong (ks' := pK pl) _ _ _ (fun j hj => klo _ (by omega))]
          exact q
  · unfold be0
    rw [if_neg (by omega), show pO pl + 1 - 1 = pO pl by omega, e2n]
/-- the class's plan after one order more -/
theorem rPc_new {t : Tl} {pl : Pn} {kd : Nat} {x : Tn} {cn : Nat → Int64} {L1 L2 : List (Nat × Nat)} {Ok Se Te sK sD : Nat → Int32} (r : rPc t pl (nI (pO pl)) (nI (pS pl)) Ok Se Te sK sD) (hk : ∀ a, a ∈ L1 ++ L2 → okD t a.1 (cDt x (tE t) cn a)) : rPc t (pNew pl kd x (tE t) cn L1 L2) (nI (pO pl + 1)) (nI (pS pl + (L1 ++ L2).length)) (upd Ok (pO pl) (nI kd)) (upd Se (pO pl) (nI (pS pl + L1.length))) (upd Te (pO pl) (nI (pS pl + (L1 ++ L2).length))) (apF cKd sK (pS pl) (L1 ++ L2)) (apF (cDt x (tE t) cn) sD (pS pl) (L1 ++ L2)) := by
  obtain ⟨r1, r2, r3⟩ := r
  refine ⟨⟨rfl, rfl⟩, fun o ho => ?_, fun i hi => ?_⟩
  · have ho : o < pO pl + 1 := ho
    show upd Ok (pO pl) (nI kd) o = nI (va_up (pKd pl) (pO pl) kd o) ∧ upd Se (pO pl) (nI (pS pl + L1.length)) o = nI (va_up (pE1 pl) (pO pl) (pS pl + L1.length) o) ∧ upd Te (pO pl) (nI (pS pl + (L1 ++ L2).length)) o = nI (va_up (pE2 pl) (pO pl) (pS pl + (L1 ++ L2).length) o)
    by_cases z : o = pO pl
    · subst z
      rw [us, us, us, vu_eq, vu_eq, vu_eq]
      exact ⟨rfl, rfl, rfl⟩
    · rw [un z, un z, un z, vu_ne z, vu_ne z, vu_ne z]
      exact r2 o (by omega)
  · have hi : i < pS pl + (L1 ++ L2).length := hi
    show apF cKd sK (pS pl) (L1 ++ L2) i = nI (if i < pS pl then pK pl i else ((L1 ++ L2).getD (i - pS pl) (0, 0)).1) ∧ apF (cDt x (tE t) cn) sD (pS pl) (L1 ++ L2) i = (if i < pS pl then pD pl i else cDt x (tE t) cn ((L1 ++ L2).getD (i - pS pl) (0, 0))) ∧ okD t (if i < pS pl then pK pl i else ((L1 ++ L2).getD (i - pS pl) (0, 0)).1) (if i < pS pl then pD pl i else cDt x (tE t) cn ((L1 ++ L2).getD (i - pS pl) (0, 0)))
    by_cases z : i < pS pl
    · rw [if_pos z, if_pos z, apF_lo _ _ _ _ _ z, apF_lo _ _ _ _ _ z]
      exact r3 i z
    · obtain ⟨j, rfl⟩ : ∃ j, i = pS pl + j := ⟨i - pS pl, by omega⟩
      rw [if_neg z, if_neg z, apF_at _ _ _ _ _ (by omega), apF_at _ _ _ _ _ (by omega), show pS pl + j - pS pl = j by omega]
      exact ⟨rfl, rfl, hk _ (getD_mem (by omega))⟩
/-- the model's plan between its two looks -/
def rel1 (pl : Pn) (tk : Nat → Nat) (p : Nat) (gd gb ge go gw : Nat → Int32) : Prop := (∀ o, o < pO pl → gd o = nI (pKd pl o) ∧ gb (2 * o) = nI (be0 pl o) ∧ ge (2 * o) = nI (pE1 pl o) ∧ gb (2 * o + 1) = nI (pE1 pl o) ∧ ge (2 * o + 1) = nI (pE2 pl o)) ∧ ∀ i, i < pS pl → go i = nI (trK (pK pl i)) ∧ (pK pl i = 45 → gw i = pD pl i) ∧ ((pK pl i = 19 ∨ pK pl i = 20 ∨ pK pl i = 22) → gw i = nI (tk i) ∧ tk i < p)
def tkNew (pl : Pn) (tk : Nat → Nat) (L : List (Nat × Nat)) : Nat → Nat := fun i => if i < pS pl then tk i else (L.getD (i - pS pl) (0, 0)).2
theorem rel1_new {pl : Pn} {tk : Nat → Nat} {p q : Nat} {gd gb ge go gw gb' ge' : Nat → Int32} {kd : Nat} {x : Tn} {E : Nat} {cn : Nat → Int64} {L1 L2 : List (Nat × Nat)} (h : rel1 pl tk p gd gb ge go gw) (hpq : p < q) (ho16 : pO pl < 16) (hb : be0 pl (pO pl) = pS pl) (hL : okL x (p + 1) q (L1 ++ L2))
    (c1 : ∀ i, i ≠ 2 * pO pl → i ≠ 2 * pO pl + 1 → gb' i = gb i ∧ ge' i = ge i) (c2 : gb' (2 * pO pl) = nI (pS pl)) (c3 : ge' (2 * pO pl) = nI (pS pl + L1.length)) (c4 : gb' (2 * pO pl + 1) = nI (pS pl + L1.length)) (c5 : ge' (2 * pO pl + 1) = nI (pS pl + (L1 ++ L2).length)) : rel1 (pNew pl kd x E cn L1 L2) (tkNew pl tk (L1 ++ L2)) q (upd gd (pO pl) (nI kd)) gb' ge' (apF mKd go (pS pl) (L1 ++ L2)) (apF (mWt x) gw (pS pl) (L1 ++ L2)) := by
  obtain ⟨h1, h2⟩ := h
  have bo : ∀ o, o ≤ pO pl → be0 (pNew pl kd x E cn L1 L2) o = be0 pl o := by
    intro o ho
    unfold be0
    by_cases z : o = 0
    · rw [if_pos z, if_pos z]
    · rw [if_neg z, if_neg z]
      exact vu_ne (f := pE2 pl) (by omega)
  refine ⟨fun o ho => ?_, fun i hi => ?_⟩
  · have ho : o < pO pl + 1 := ho
    rw [bo o (by omega)]
    show upd gd (pO pl) (nI kd) o = nI (va_up (pKd pl) (pO pl) kd o) ∧ gb' (2 * o) = nI (be0 pl o) ∧ ge' (2 * o) = nI (va_up (pE1 pl) (pO pl) (pS pl + L1.length) o) ∧ gb' (2 * o + 1) = nI (va_up (pE1 pl) (pO pl) (pS pl + L1.length) o) ∧ ge' (2 * o + 1) = nI (va_up (pE2 pl) (pO pl) (pS pl + (L1 ++ L2).length) o)
    by_cases z : o = pO pl
    · subst z
      rw [us, vu_eq, vu_eq, vu_eq, hb]
      exact ⟨rfl, c2, c3, c4, c5⟩
    · have t := h1 o (by omega)
      rw [un z, vu_ne z, vu_ne z, vu_ne z, (c1 (2 * o) (by omega) (by omega)).1, (c1 (2 * o) (by omega) (by omega)).2, (c1 (2 * o + 1) (by omega) (by omega)).1, (c1 (2 * o + 1) (by omega) (by omega)).2]
      exact t
  · have hi : i < pS pl + (L1 ++ L2).length := hi
    show apF mKd go (pS pl) (L1 ++ L2) i = nI (trK (if i < pS pl then pK pl i else ((L1 ++ L2).getD (i - pS pl) (0, 0)).1)) ∧ ((if i < pS pl then pK pl i else ((L1 ++ L2).getD (i - pS pl) (0, 0)).1) = 45 → apF (mWt x) gw (pS pl) (L1 ++ L2) i = (if i < pS pl then pD pl i else cDt x E cn ((L1 ++ L2).getD (i - pS pl) (0, 0)))) ∧ (((if i < pS pl then pK pl i else ((L1 ++ L2).getD (i - pS pl) (0, 0)).1) = 19 ∨ (if i < pS pl then pK pl i else ((L1 ++ L2).getD (i - pS pl) (0, 0)).1) = 20 ∨ (if i < pS pl then pK pl i else ((L1 ++ L2).getD (i - pS pl) (0, 0)).1) = 22) → apF (mWt x) gw (pS pl) (L1 ++ L2) i = nI (if i < pS pl then tk i else ((L1 ++ L2).getD (i - pS pl) (0, 0)).2) ∧ (if i < pS pl then tk i else ((L1 ++ L2).getD (i - pS pl) (0, 0)).2) < q)
    by_cases z : i < pS pl
    · rw [if_pos z, if_pos z, if_pos z, apF_lo _ _ _ _ _ z, apF_lo _ _ _ _ _ z]
      have t := h2 i z
      exact ⟨t.1, t.2.1, fun y => ⟨(t.2.2 y).1, by have := (t.2.2 y).2; omega⟩⟩
    · obtain ⟨j, rfl⟩ : ∃ j, i = pS pl + j := ⟨i - pS pl, by omega⟩
      rw [if_neg z, if_neg z, if_neg z, apF_at _ _ _ _ _ (by omega), apF_at _ _ _ _ _ (by omega), show pS pl + j - pS pl = j by omega]
      refine ⟨rfl, fun y => ?_, fun y => ⟨mWt_e y, (hL _ (getD_mem (by omega)) y).2.1⟩⟩
      unfold mWt cDt
      rw [if_pos y, if_pos y]
theorem rel1_le {pl : Pn} {tk : Nat → Nat} {p q : Nat} {gd gb ge go gw : Nat → Int32} (h : rel1 pl tk p gd gb ge go gw) (hpq : p ≤ q) : rel1 pl tk q gd gb ge go gw := ⟨h.1, fun i hi => ⟨(h.2 i hi).1, (h.2 i hi).2.1, fun y => ⟨((h.2 i hi).2.2 y).1, by have := ((h.2 i hi).2.2 y).2; omega⟩⟩⟩
