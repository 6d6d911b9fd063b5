/-! PURE: the lines' text, cut into tokens, is the lines' tokens; all kinds are below 46, all letters below 128. -/
def kOK (l : List Tk) : Prop := ∀ a, a ∈ l → a.1 < 46
theorem kOK_n : kOK [] := fun a h => by cases h
theorem kOK_c {a : Tk} {l : List Tk} (h : a.1 < 46) (hl : kOK l) : kOK (a :: l) := fun b hb => by
  rcases List.mem_cons.mp hb with rfl | hb
  · exact h
  · exact hl b hb
theorem kOK_a {l u : List Tk} (h : kOK l) (h2 : kOK u) : kOK (l ++ u) := fun b hb => by
  rcases List.mem_append.mp hb with hb | hb
  · exact h b hb
  · exact h2 b hb
theorem kOK_p {l : List Tk} (h : kOK l) : kOK (pT l) := kOK_c (by decide) (kOK_a h (kOK_c (by decide) kOK_n))
theorem kOK_b {l : List Tk} (h : kOK l) : kOK (bT l) := kOK_c (by decide) (kOK_a h (kOK_c (by decide) kOK_n))
theorem kOK_q {l u : List Tk} (h : kOK l) (h2 : kOK u) : kOK (qT l u) := kOK_c (by decide) (kOK_a h (kOK_c (by decide) (kOK_a h2 (kOK_c (by decide) kOK_n))))
theorem tk_lt : ∀ (d : Nat) (x : Tr d), kOK (tkT d x) := by
  intro d
  induction d with
  | zero => intro x; exact kOK_n
  | succ d ih =>
    intro x
    unfold tkT
    split
    all_goals repeat' first | exact kOK_n | exact ih _ | apply kOK_p | apply kOK_b | apply kOK_q | apply kOK_a | refine kOK_c (Nat.le_of_ble_eq_true rfl) ?_
theorem ln_lt (a : Ln) : kOK (lnT a) := by
  obtain ⟨k, x, y, z⟩ := a
  match k with
  | 0 => exact kOK_c (by decide) (kOK_c (Nat.le_of_ble_eq_true rfl) (kOK_c (by decide) (kOK_c (Nat.le_of_ble_eq_true rfl) (kOK_c (by decide) (kOK_c (Nat.le_of_ble_eq_true rfl) kOK_n)))))
  | 1 => exact kOK_c (by decide) (kOK_c (by decide) (kOK_c (Nat.le_of_ble_eq_true rfl) (kOK_c (by decide) (kOK_c (Nat.le_of_ble_eq_true rfl) (kOK_c (by decide) (kOK_c (Nat.le_of_ble_eq_true rfl) kOK_n))))))
  | 2 => exact kOK_c (by decide) (kOK_c (by decide) (kOK_c (Nat.le_of_ble_eq_true rfl) (kOK_c (by decide) (kOK_c (Nat.le_of_ble_eq_true rfl) (kOK_c (by decide) (kOK_c (Nat.le_of_ble_eq_true rfl) kOK_n))))))
  | n + 3 => exact kOK_c (by decide) (kOK_c (by decide) (kOK_c (Nat.le_of_ble_eq_true rfl) (kOK_c (by decide) (kOK_c (Nat.le_of_ble_eq_true rfl) kOK_n))))
theorem lns_lt : ∀ l : List Ln, kOK (lnsT l)
  | [] => kOK_n
  | a :: l => kOK_a (ln_lt a) (kOK_c (by decide) (lns_lt l))
theorem od_lt {e : Nat} {o : Or} (h : okO e o) : kOK (orT o) := by
  obtain ⟨k, x, te⟩ := o
  have hk : k ≤ 2 := h.1
  refine kOK_c (by show 11 + k < 46; omega) (kOK_a (tk_lt 2 x) ?_)
  cases te with
  | none => exact kOK_n
  | some y => exact kOK_c (by decide) (tk_lt 4 y)
theorem ods_lt {e : Nat} : ∀ l : List Or, (∀ o, o ∈ l → okO e o) → kOK (orsT l)
  | [], _ => kOK_n
  | a :: l, h => kOK_a (od_lt (h a List.mem_cons_self)) (kOK_c (by decide) (ods_lt l (fun o ho => h o (List.mem_cons_of_mem _ ho))))
/-- letters -/
def cOK (l : List Nat) : Prop := ∀ c, c ∈ l → c < 128
theorem cOK_n : cOK [] := fun a h => by cases h
theorem cOK_a {l u : List Nat} (h : cOK l) (h2 : cOK u) : cOK (l ++ u) := fun b hb => by
  rcases List.mem_append.mp hb with hb | hb
  · exact h b hb
  · exact h2 b hb
theorem cOK_d (v : Nat) : cOK (decL v) := fun c h => by
  have := dec_dg h
  omega
theorem cOK_k0 : ∀ i, i < 52 → (kTl i).all (fun c => decide (c < 128)) = true := by decide +kernel
theorem cOK_k (i : Nat) (h : i < 52) : cOK (kTl i) := fun c hc => of_decide_eq_true (List.all_eq_true.mp (cOK_k0 i h) c hc)
theorem tx_lt : ∀ (d : Nat) (x : Tr d), cOK (txT d x) := by
  intro d
  induction d with
  | zero => intro x; exact cOK_n
  | succ d ih =>
    intro x
    unfold txT
    split
    all_goals repeat' first | exact cOK_n | exact ih _ | exact cOK_d _ | exact cOK_k _ (by decide) | apply cOK_a
theorem pl_c (s j : Nat) : cOK (plX s j) := cOK_a (cOK_a (cOK_a (cOK_a cOK_n (cOK_k _ (by decide))) (cOK_d _)) (cOK_k _ (by decide))) (cOK_d _)
theorem ln_c (a : Ln) : cOK (lnX a) := by
  obtain ⟨k, x, y, z⟩ := a
  match k with
  | 0 => exact cOK_a (cOK_k _ (by decide)) (cOK_a (cOK_d _) (cOK_a (cOK_k _ (by decide)) (cOK_a (cOK_d _) (cOK_a (cOK_k _ (by decide)) (cOK_a (cOK_d _) (cOK_k _ (by decide)))))))
  | 1 => exact cOK_a (cOK_k _ (by decide)) (cOK_a (pl_c _ _) (cOK_a (cOK_k _ (by decide)) (cOK_a (cOK_d _) (cOK_k _ (by decide)))))
  | 2 => exact cOK_a (cOK_k _ (by decide)) (cOK_a (pl_c _ _) (cOK_a (cOK_k _ (by decide)) (cOK_a (cOK_d _) (cOK_k _ (by decide)))))
  | n + 3 => exact cOK_a (cOK_k _ (by decide)) (cOK_a (pl_c _ _) (cOK_k _ (by decide)))
theorem lns_c : ∀ l : List Ln, cOK (lnsX l)
  | [] => cOK_n
  | a :: l => cOK_a (ln_c a) (lns_c l)
theorem od_c {e : Nat} {o : Or} (h : okO e o) : cOK (orX o) := by
  obtain ⟨k, x, te⟩ := o
  have hk : k ≤ 2 := h.1
  refine cOK_a (cOK_k _ (by show 47 + k < 52; omega)) (cOK_a (tx_lt 2 x) (cOK_a ?_ (cOK_k _ (by decide))))
  cases te with
  | none => exact cOK_k _ (by decide)
  | some y => exact cOK_a (cOK_a cOK_n (cOK_k _ (by decide))) (tx_lt 4 y)
theorem ods_c {e : Nat} : ∀ l : List Or, (∀ o, o ∈ l → okO e o) → cOK (orsX l)
  | [], _ => cOK_n
  | a :: l, h => cOK_a (od_c (h a List.mem_cons_self)) (ods_c l (fun o ho => h o (List.mem_cons_of_mem _ ho)))
theorem hd_c (n m : Nat) : cOK (hdX n m) := cOK_a (cOK_a (cOK_a (cOK_a (cOK_a cOK_n (cOK_k _ (by decide))) (cOK_d _)) (cOK_k _ (by decide))) (cOK_d _)) (cOK_k _ (by decide))
/-- cut into tokens -/
theorem ln_lx {t : Tl} (wt : wfT t) (e3 : tE t ≤ 3) {a : Ln} (ok : okL t a) (u : List Nat) : lxB (0, []) (lnX a ++ u) = lnT a ++ (t0 33 :: lxB (0, []) u) := by
  have n2 := wt.1
  have m2 := wt.2.1
  obtain ⟨k, x, y, z⟩ := a
  match k, ok with
  | 0, ok =>
    obtain ⟨o1, o2, o3, o4⟩ := ok
    have o1 : x = tE t := o1
    have o3 : y ≤ z := o3
    have o4 : z ≤ 999 := o4
    show lxB (0, []) ((kTl 36 ++ (decL x ++ (kTl 37 ++ (decL y ++ (kTl 38 ++ (decL z ++ kTl 39)))))) ++ u) = _
    simp only [List.append_assoc]
    rw [emp_lx (by omega), num_lx (by omega) (b38 _), c38_lx, num_lx (by omega) (b39 _), c39_lx]
    rfl
  | 1, ok =>
    obtain ⟨o1, o2, o3, o4, o5⟩ := ok
    have o1 : x < tN t := o1
    have o2 : y < tM t := o2
    have o5 : z ≤ 999 := o5
    show lxB (0, []) ((kTl 43 ++ (([] ++ kTl 40 ++ decL x ++ kTl 41 ++ decL y) ++ (kTl 45 ++ (decL z ++ kTl 35)))) ++ u) = _
    simp only [List.append_assoc, List.nil_append]
    rw [coi_lx, num_lx (by omega) (b41 _), c41_lx, num_lx (by omega) (b45 _), c45_lx, num_lx (by omega) (b35 _), c35_lx]
    rfl
  | 2, ok =>
    obtain ⟨o1, o2, o3, o4, o5⟩ := ok
    have o1 : x < tN t := o1
    have o2 : y < tM t := o2
    have o5 : z < tE t := o5
    show lxB (0, []) ((kTl 44 ++ (([] ++ kTl 40 ++ decL x ++ kTl 41 ++ decL y) ++ (kTl 46 ++ (decL z ++ kTl 35)))) ++ u) = _
    simp only [List.append_assoc, List.nil_append]
    rw [cru_lx, num_lx (by omega) (b41 _), c41_lx, num_lx (by omega) (b46 _), ofe_lx (by omega)]
    rfl
  | n + 3, ok =>
    obtain ⟨o1, o2, o3⟩ := ok
    have o1 : x < tN t := o1
    have o2 : y < tM t := o2
    show lxB (0, []) ((kTl 42 ++ (([] ++ kTl 40 ++ decL x ++ kTl 41 ++ decL y) ++ kTl 39)) ++ u) = _
    simp only [List.append_assoc, List.nil_append]
    rw [spr_lx, num_lx (by omega) (b41 _), c41_lx, num_lx (by omega) (b39 _), c39_lx]
    rfl
theorem e3_ad {t : Tl} (e3 : tE t ≤ 3) {a : Ln} (ok : okL t a) : tE (adL t a) ≤ 3 := by
  obtain ⟨k, x, y, z⟩ := a
  match k, ok with
  | 0, ok =>
    have := ok.2.1
    show tE t + 1 ≤ 3
    omega
  | 1, ok => exact e3
  | 2, ok => exact e3
  | n + 3, ok => exact e3
theorem lns_lx : ∀ (l : List Ln) (t : Tl), wfT t → tE t ≤ 3 → okA t l → ∀ u, lxB (0, []) (lnsX l ++ u) = lnsT l ++ lxB (0, []) u
  | [], _, _, _, _, _ => rfl
  | a :: l, t, wt, e3, ok, u => by
    show lxB (0, []) ((lnX a ++ lnsX l) ++ u) = (lnT a ++ (t0 33 :: lnsT l)) ++ lxB (0, []) u
    rw [List.append_assoc, ln_lx wt e3 ok.1, lns_lx l (adL t a) (wf_adL wt ok.1) (e3_ad e3 ok.1) ok.2, List.append_assoc]
    rfl
theorem odr_lx {e : Nat} (he : e ≤ 3) {o : Or} (h : okO e o) (u : List Nat) : lxB (0, []) (orX o ++ u) = orT o ++ (t0 33 :: lxB (0, []) u) := by
  obtain ⟨k, x, te⟩ := o
  obtain ⟨h1, h2, h3⟩ := h
  have hk : k ≤ 2 := h1
  have h2 : trW e 2 false x := h2
  have c47 : ∀ v, lxB (0, []) (kTl (47 + k) ++ v) = [t0 (11 + k)] ++ lxB (0, []) v := by
    intro v
    obtain rfl | rfl | rfl : k = 0 ∨ k = 1 ∨ k = 2 := by omega
    · exact c47_lx v
    · exact c48_lx v
    · exact c49_lx v
  show lxB (0, []) ((kTl (47 + k) ++ (txT 2 x ++ (whX te ++ kTl 39))) ++ u) = _
  simp only [List.append_assoc]
  rw [c47]
  cases te with
  | none =>
    show _ ++ lxB (0, []) (txT 2 x ++ (kTl 50 ++ (kTl 39 ++ u))) = (t0 (11 + k) :: (tkT 2 x ++ [])) ++ (t0 33 :: lxB (0, []) u)
    rw [kt50, List.nil_append, lx_tree he 2 false x _ h2 (b39 _), c39_lx, List.append_nil]
    rfl
  | some y =>
    show _ ++ lxB (0, []) (txT 2 x ++ (([] ++ kTl 51 ++ txT 4 y) ++ (kTl 39 ++ u))) = (t0 (11 + k) :: (tkT 2 x ++ (t0 14 :: tkT 4 y))) ++ (t0 33 :: lxB (0, []) u)
    simp only [List.append_assoc, List.nil_append]
    rw [lx_tree he 2 false x _ h2 (b51 _), c51_lx, lx_tree he 4 true y _ (h3 y rfl) (b39 _), c39_lx]
    show t0 (11 + k) :: (tkT 2 x ++ ([t0 14] ++ (tkT 4 y ++ ([t0 33] ++ lxB (0, []) u)))) = t0 (11 + k) :: ((tkT 2 x ++ (t0 14 :: tkT 4 y)) ++ (t0 33 :: lxB (0, []) u))
    rw [List.append_assoc]
    rfl
theorem ods_lx {e : Nat} (he : e ≤ 3) : ∀ (l : List Or), (∀ o, o ∈ l → okO e o) → lxB (0, []) (orsX l) = orsT l
  | [], _ => rfl
  | a :: l, h => by
    show lxB (0, []) (orX a ++ orsX l) = orT a ++ (t0 33 :: orsT l)
    rw [odr_lx he (h a List.mem_cons_self), ods_lx he l (fun o ho => h o (List.mem_cons_of_mem _ ho))]
theorem hd_lx {n m : Nat} (hn : n < 1000000) (hm : m < 1000000) (u : List Nat) : lxB (0, []) (hdX n m ++ u) = hdT n m ++ lxB (0, []) u := by
  show lxB (0, []) (([] ++ kTl 33 ++ decL n ++ kTl 34 ++ decL m ++ kTl 35) ++ u) = _
  simp only [List.append_assoc, List.nil_append]
  rw [c33_lx, num_lx hn (b34 _), c34_lx, num_lx hm (b35 _), c35_lx]
  rfl
