/-! PURE: the class reads the tokens of a tree: its steps come behind the others, no error. -/
theorem vs15 {y : Int32} {P0 P1 P2 P3 P4 P5 P6 P7 P8 P9 P10 P11 E : Prop} (h : y = 15) (p : P0) : (y = 15 → P0) ∧ (y = 16 → P1) ∧ (y = 17 → P2) ∧ (y = 18 → P3) ∧ (y = 19 → P4) ∧ (y = 20 → P5) ∧ (y = 21 → P6) ∧ (y = 27 → P7) ∧ (y = 28 → P8) ∧ (y = 29 → P9) ∧ (y = 36 → P10) ∧ (y = 45 → P11) ∧ (¬ y = 15 → ¬ y = 16 → ¬ y = 17 → ¬ y = 18 → ¬ y = 19 → ¬ y = 20 → ¬ y = 21 → ¬ y = 27 → ¬ y = 28 → ¬ y = 29 → ¬ y = 36 → ¬ y = 45 → E) :=
  ⟨fun _ => p, fun z => absurd (h.symm.trans z) (by decide), fun z => absurd (h.symm.trans z) (by decide), fun z => absurd (h.symm.trans z) (by decide), fun z => absurd (h.symm.trans z) (by decide), fun z => absurd (h.symm.trans z) (by decide), fun z => absurd (h.symm.trans z) (by decide), fun z => absurd (h.symm.trans z) (by decide), fun z => absurd (h.symm.trans z) (by decide), fun z => absurd (h.symm.trans z) (by decide), fun z => absurd (h.symm.trans z) (by decide), fun z => absurd (h.symm.trans z) (by decide), fun h0 h1 h2 h3 h4 h5 h6 h7 h8 h9 h10 h11 => absurd h h0⟩
theorem vs16 {y : Int32} {P0 P1 P2 P3 P4 P5 P6 P7 P8 P9 P10 P11 E : Prop} (h : y = 16) (p : P1) : (y = 15 → P0) ∧ (y = 16 → P1) ∧ (y = 17 → P2) ∧ (y = 18 → P3) ∧ (y = 19 → P4) ∧ (y = 20 → P5) ∧ (y = 21 → P6) ∧ (y = 27 → P7) ∧ (y = 28 → P8) ∧ (y = 29 → P9) ∧ (y = 36 → P10) ∧ (y = 45 → P11) ∧ (¬ y = 15 → ¬ y = 16 → ¬ y = 17 → ¬ y = 18 → ¬ y = 19 → ¬ y = 20 → ¬ y = 21 → ¬ y = 27 → ¬ y = 28 → ¬ y = 29 → ¬ y = 36 → ¬ y = 45 → E) :=
  ⟨fun z => absurd (h.symm.trans z) (by decide), fun _ => p, fun z => absurd (h.symm.trans z) (by decide), fun z => absurd (h.symm.trans z) (by decide), fun z => absurd (h.symm.trans z) (by decide), fun z => absurd (h.symm.trans z) (by decide), fun z => absurd (h.symm.trans z) (by decide), fun z => absurd (h.symm.trans z) (by decide), fun z => absurd (h.symm.trans z) (by decide), fun z => absurd (h.symm.trans z) (by decide), fun z => absurd (h.symm.trans z) (by decide), fun z => absurd (h.symm.trans z) (by decide), fun h0 h1 h2 h3 h4 h5 h6 h7 h8 h9 h10 h11 => absurd h h1⟩
theorem vs17 {y : Int32} {P0 P1 P2 P3 P4 P5 P6 P7 P8 P9 P10 P11 E : Prop} (h : y = 17) (p : P2) : (y = 15 → P0) ∧ (y = 16 → P1) ∧ (y = 17 → P2) ∧ (y = 18 → P3) ∧ (y = 19 → P4) ∧ (y = 20 → P5) ∧ (y = 21 → P6) ∧ (y = 27 → P7) ∧ (y = 28 → P8) ∧ (y = 29 → P9) ∧ (y = 36 → P10) ∧ (y = 45 → P11) ∧ (¬ y = 15 → ¬ y = 16 → ¬ y = 17 → ¬ y = 18 → ¬ y = 19 → ¬ y = 20 → ¬ y = 21 → ¬ y = 27 → ¬ y = 28 → ¬ y = 29 → ¬ y = 36 → ¬ y = 45 → E) :=
  ⟨fun z => absurd (h.symm.trans z) (by decide), fun z => absurd (h.symm.trans z) (by decide), fun _ => p, fun z => absurd (h.symm.trans z) (by decide), fun z => absurd (h.symm.trans z) (by decide), fun z => absurd (h.symm.trans z) (by decide), fun z => absurd (h.symm.trans z) (by decide), fun z => absurd (h.symm.trans z) (by decide), fun z => absurd (h.symm.trans z) (by decide), fun z => absurd (h.symm.trans z) (by decide), fun z => absurd (h.symm.trans z) (by decide), fun z => absurd (h.symm.trans z) (by decide), fun h0 h1 h2 h3 h4 h5 h6 h7 h8 h9 h10 h11 => absurd h h2⟩
theorem vs18 {y : Int32} {P0 P1 P2 P3 P4 P5 P6 P7 P8 P9 P10 P11 E : Prop} (h : y = 18) (p : P3) : (y = 15 → P0) ∧ (y = 16 → P1) ∧ (y = 17 → P2) ∧ (y = 18 → P3) ∧ (y = 19 → P4) ∧ (y = 20 → P5) ∧ (y = 21 → P6) ∧ (y = 27 → P7) ∧ (y = 28 → P8) ∧ (y = 29 → P9) ∧ (y = 36 → P10) ∧ (y = 45 → P11) ∧ (¬ y = 15 → ¬ y = 16 → ¬ y = 17 → ¬ y = 18 → ¬ y = 19 → ¬ y = 20 → ¬ y = 21 → ¬ y = 27 → ¬ y = 28 → ¬ y = 29 → ¬ y = 36 → ¬ y = 45 → E) :=
  ⟨fun z => absurd (h.symm.trans z) (by decide), fun z => absurd (h.symm.trans z) (by decide), fun z => absurd (h.symm.trans z) (by decide), fun _ => p, fun z => absurd (h.symm.trans z) (by decide), fun z => absurd (h.symm.trans z) (by decide), fun z => absurd (h.symm.trans z) (by decide), fun z => absurd (h.symm.trans z) (by decide), fun z => absurd (h.symm.trans z) (by decide), fun z => absurd (h.symm.trans z) (by decide), fun z => absurd (h.symm.trans z) (by decide), fun z => absurd (h.symm.trans z) (by decide), fun h0 h1 h2 h3 h4 h5 h6 h7 h8 h9 h10 h11 => absurd h h3⟩
theorem vs19 {y : Int32} {P0 P1 P2 P3 P4 P5 P6 P7 P8 P9 P10 P11 E : Prop} (h : y = 19) (p : P4) : (y = 15 → P0) ∧ (y = 16 → P1) ∧ (y = 17 → P2) ∧ (y = 18 → P3) ∧ (y = 19 → P4) ∧ (y = 20 → P5) ∧ (y = 21 → P6) ∧ (y = 27 → P7) ∧ (y = 28 → P8) ∧ (y = 29 → P9) ∧ (y = 36 → P10) ∧ (y = 45 → P11) ∧ (¬ y = 15 → ¬ y = 16 → ¬ y = 17 → ¬ y = 18 → ¬ y = 19 → ¬ y = 20 → ¬ y = 21 → ¬ y = 27 → ¬ y = 28 → ¬ y = 29 → ¬ y = 36 → ¬ y = 45 → E) :=
  ⟨fun z => absurd (h.symm.trans z) (by decide), fun z => absurd (h.symm.trans z) (by decide), fun z => absurd (h.symm.trans z) (by decide), fun z => absurd (h.symm.trans z) (by decide), fun _ => p, fun z => absurd (h.symm.trans z) (by decide), fun z => absurd (h.symm.trans z) (by decide), fun z => absurd (h.symm.trans z) (by decide), fun z => absurd (h.symm.trans z) (by decide), fun z => absurd (h.symm.trans z) (by decide), fun z => absurd (h.symm.trans z) (by decide), fun z => absurd (h.symm.trans z) (by decide), fun h0 h1 h2 h3 h4 h5 h6 h7 h8 h9 h10 h11 => absurd h h4⟩
theorem vs20 {y : Int32} {P0 P1 P2 P3 P4 P5 P6 P7 P8 P9 P10 P11 E : Prop} (h : y = 20) (p : P5) : (y = 15 → P0) ∧ (y = 16 → P1) ∧ (y = 17 → P2) ∧ (y = 18 → P3) ∧ (y = 19 → P4) ∧ (y = 20 → P5) ∧ (y = 21 → P6) ∧ (y = 27 → P7) ∧ (y = 28 → P8) ∧ (y = 29 → P9) ∧ (y = 36 → P10) ∧ (y = 45 → P11) ∧ (¬ y = 15 → ¬ y = 16 → ¬ y = 17 → ¬ y = 18 → ¬ y = 19 → ¬ y = 20 → ¬ y = 21 → ¬ y = 27 → ¬ y = 28 → ¬ y = 29 → ¬ y = 36 → ¬ y = 45 → E) :=
  ⟨fun z => absurd (h.symm.trans z) (by decide), fun z => absurd (h.symm.trans z) (by decide), fun z => absurd (h.symm.trans z) (by decide), fun z => absurd (h.symm.trans z) (by decide), fun z => absurd (h.symm.trans z) (by decide), fun _ => p, fun z => absurd (h.symm.trans z) (by decide), fun z => absurd (h.symm.trans z) (by decide), fun z => absurd (h.symm.trans z) (by decide), fun z => absurd (h.symm.trans z) (by decide), fun z => absurd (h.symm.trans z) (by decide), fun z => absurd (h.symm.trans z) (by decide), fun h0 h1 h2 h3 h4 h5 h6 h7 h8 h9 h10 h11 => absurd h h5⟩
theorem vs21 {y : Int32} {P0 P1 P2 P3 P4 P5 P6 P7 P8 P9 P10 P11 E : Prop} (h : y = 21) (p : P6) : (y = 15 → P0) ∧ (y = 16 → P1) ∧ (y = 17 → P2) ∧ (y = 18 → P3) ∧ (y = 19 → P4) ∧ (y = 20 → P5) ∧ (y = 21 → P6) ∧ (y = 27 → P7) ∧ (y = 28 → P8) ∧ (y = 29 → P9) ∧ (y = 36 → P10) ∧ (y = 45 → P11) ∧ (¬ y = 15 → ¬ y = 16 → ¬ y = 17 → ¬ y = 18 → ¬ y = 19 → ¬ y = 20 → ¬ y = 21 → ¬ y = 27 → ¬ y = 28 → ¬ y = 29 → ¬ y = 36 → ¬ y = 45 → E) :=
  ⟨fun z => absurd (h.symm.trans z) (by decide), fun z => absurd (h.symm.trans z) (by decide), fun z => absurd (h.symm.trans z) (by decide), fun z => absurd (h.symm.trans z) (by decide), fun z => absurd (h.symm.trans z) (by decide), fun z => absurd (h.symm.trans z) (by decide), fun _ => p, fun z => absurd (h.symm.trans z) (by decide), fun z => absurd (h.symm.trans z) (by decide), fun z => absurd (h.symm.trans z) (by decide), fun z => absurd (h.symm.trans z) (by decide), fun z => absurd (h.symm.trans z) (by decide), fun h0 h1 h2 h3 h4 h5 h6 h7 h8 h9 h10 h11 => absurd h h6⟩
theorem vs27 {y : Int32} {P0 P1 P2 P3 P4 P5 P6 P7 P8 P9 P10 P11 E : Prop} (h : y = 27) (p : P7) : (y = 15 → P0) ∧ (y = 16 → P1) ∧ (y = 17 → P2) ∧ (y = 18 → P3) ∧ (y = 19 → P4) ∧ (y = 20 → P5) ∧ (y = 21 → P6) ∧ (y = 27 → P7) ∧ (y = 28 → P8) ∧ (y = 29 → P9) ∧ (y = 36 → P10) ∧ (y = 45 → P11) ∧ (¬ y = 15 → ¬ y = 16 → ¬ y = 17 → ¬ y = 18 → ¬ y = 19 → ¬ y = 20 → ¬ y = 21 → ¬ y = 27 → ¬ y = 28 → ¬ y = 29 → ¬ y = 36 → ¬ y = 45 → E) :=
  ⟨fun z => absurd (h.symm.trans z) (by decide), fun z => absurd (h.symm.trans z) (by decide), fun z => absurd (h.symm.trans z) (by decide), fun z => absurd (h.symm.trans z) (by decide), fun z => absurd (h.symm.trans z) (by decide), fun z => absurd (h.symm.trans z) (by decide), fun z => absurd (h.symm.trans z) (by decide), fun _ => p, fun z => absurd (h.symm.trans z) (by decide), fun z => absurd (h.symm.trans z) (by decide), fun z => absurd (h.symm.trans z) (by decide), fun z => absurd (h.symm.trans z) (by decide), fun h0 h1 h2 h3 h4 h5 h6 h7 h8 h9 h10 h11 => absurd h h7⟩
theorem vs28 {y : Int32} {P0 P1 P2 P3 P4 P5 P6 P7 P8 P9 P10 P11 E : Prop} (h : y = 28) (p : P8) : (y = 15 → P0) ∧ (y = 16 → P1) ∧ (y = 17 → P2) ∧ (y = 18 → P3) ∧ (y = 19 → P4) ∧ (y = 20 → P5) ∧ (y = 21 → P6) ∧ (y = 27 → P7) ∧ (y = 28 → P8) ∧ (y = 29 → P9) ∧ (y = 36 → P10) ∧ (y = 45 → P11) ∧ (¬ y = 15 → ¬ y = 16 → ¬ y = 17 → ¬ y = 18 → ¬ y = 19 → ¬ y = 20 → ¬ y = 21 → ¬ y = 27 → ¬ y = 28 → ¬ y = 29 → ¬ y = 36 → ¬ y = 45 → E) :=
  ⟨fun z => absurd (h.symm.trans z) (by decide), fun z => absurd (h.symm.trans z) (by decide), fun z => absurd (h.symm.trans z) (by decide), fun z => absurd (h.symm.trans z) (by decide), fun z => absurd (h.symm.trans z) (by decide), fun z => absurd (h.symm.trans z) (by decide), fun z => absurd (h.symm.trans z) (by decide), fun z => absurd (h.symm.trans z) (by decide), fun _ => p, fun z => absurd (h.symm.trans z) (by decide), fun z => absurd (h.symm.trans z) (by decide), fun z => absurd (h.symm.trans z) (by decide), fun h0 h1 h2 h3 h4 h5 h6 h7 h8 h9 h10 h11 => absurd h h8⟩
theorem vs29 {y : Int32} {P0 P1 P2 P3 P4 P5 P6 P7 P8 P9 P10 P11 E : Prop} (h : y = 29) (p : P9) : (y = 15 → P0) ∧ (y = 16 → P1) ∧ (y = 17 → P2) ∧ (y = 18 → P3) ∧ (y = 19 → P4) ∧ (y = 20 → P5) ∧ (y = 21 → P6) ∧ (y = 27 → P7) ∧ (y = 28 → P8) ∧ (y = 29 → P9) ∧ (y = 36 → P10) ∧ (y = 45 → P11) ∧ (¬ y = 15 → ¬ y = 16 → ¬ y = 17 → ¬ y = 18 → ¬ y = 19 → ¬ y = 20 → ¬ y = 21 → ¬ y = 27 → ¬ y = 28 → ¬ y = 29 → ¬ y = 36 → ¬ y = 45 → E) :=
  ⟨fun z => absurd (h.symm.trans z) (by decide), fun z => absurd (h.symm.trans z) (by decide), fun z => absurd (h.symm.trans z) (by decide), fun z => absurd (h.symm.trans z) (by decide), fun z => absurd (h.symm.trans z) (by decide), fun z => absurd (h.symm.trans z) (by decide), fun z => absurd (h.symm.trans z) (by decide), fun z => absurd (h.symm.trans z) (by decide), fun z => absurd (h.symm.trans z) (by decide), fun _ => p, fun z => absurd (h.symm.trans z) (by decide), fun z => absurd (h.symm.trans z) (by decide), fun h0 h1 h2 h3 h4 h5 h6 h7 h8 h9 h10 h11 => absurd h h9⟩
theorem vs36 {y : Int32} {P0 P1 P2 P3 P4 P5 P6 P7 P8 P9 P10 P11 E : Prop} (h : y = 36) (p : P10) : (y = 15 → P0) ∧ (y = 16 → P1) ∧ (y = 17 → P2) ∧ (y = 18 → P3) ∧ (y = 19 → P4) ∧ (y = 20 → P5) ∧ (y = 21 → P6) ∧ (y = 27 → P7) ∧ (y = 28 → P8) ∧ (y = 29 → P9) ∧ (y = 36 → P10) ∧ (y = 45 → P11) ∧ (¬ y = 15 → ¬ y = 16 → ¬ y = 17 → ¬ y = 18 → ¬ y = 19 → ¬ y = 20 → ¬ y = 21 → ¬ y = 27 → ¬ y = 28 → ¬ y = 29 → ¬ y = 36 → ¬ y = 45 → E) :=
  ⟨fun z => absurd (h.symm.trans z) (by decide), fun z => absurd (h.symm.trans z) (by decide), fun z => absurd (h.symm.trans z) (by decide), fun z => absurd (h.symm.trans z) (by decide), fun z => absurd (h.symm.trans z) (by decide), fun z => absurd (h.symm.trans z) (by decide), fun z => absurd (h.symm.trans z) (by decide), fun z => absurd (h.symm.trans z) (by decide), fun z => absurd (h.symm.trans z) (by decide), fun z => absurd (h.symm.trans z) (by decide), fun _ => p, fun z => absurd (h.symm.trans z) (by decide), fun h0 h1 h2 h3 h4 h5 h6 h7 h8 h9 h10 h11 => absurd h h10⟩
theorem vs45 {y : Int32} {P0 P1 P2 P3 P4 P5 P6 P7 P8 P9 P10 P11 E : Prop} (h : y = 45) (p : P11) : (y = 15 → P0) ∧ (y = 16 → P1) ∧ (y = 17 → P2) ∧ (y = 18 → P3) ∧ (y = 19 → P4) ∧ (y = 20 → P5) ∧ (y = 21 → P6) ∧ (y = 27 → P7) ∧ (y = 28 → P8) ∧ (y = 29 → P9) ∧ (y = 36 → P10) ∧ (y = 45 → P11) ∧ (¬ y = 15 → ¬ y = 16 → ¬ y = 17 → ¬ y = 18 → ¬ y = 19 → ¬ y = 20 → ¬ y = 21 → ¬ y = 27 → ¬ y = 28 → ¬ y = 29 → ¬ y = 36 → ¬ y = 45 → E) :=
  ⟨fun z => absurd (h.symm.trans z) (by decide), fun z => absurd (h.symm.trans z) (by decide), fun z => absurd (h.symm.trans z) (by decide), fun z => absurd (h.symm.trans z) (by decide), fun z => absurd (h.symm.trans z) (by decide), fun z => absurd (h.symm.trans z) (by decide), fun z => absurd (h.symm.trans z) (by decide), fun z => absurd (h.symm.trans z) (by decide), fun z => absurd (h.symm.trans z) (by decide), fun z => absurd (h.symm.trans z) (by decide), fun z => absurd (h.symm.trans z) (by decide), fun _ => p, fun h0 h1 h2 h3 h4 h5 h6 h7 h8 h9 h10 h11 => absurd h h11⟩
abbrev PK : Type := (Int32 × Int32 × Int32 × Int32 × Int32 × (Nat → Int32) × (Nat → Int32)) → Prop
/-- the tokens' kinds: N of them, the end behind -/
def tkK (N : Nat) (kf : Nat → Nat) (ki : Nat → Int32) : Prop := N ≤ 400 ∧ ∀ i, i ≤ N → ki i = nI (kf i) ∧ kf i < 100
/-- the tokens l stand from i on -/
def AtL (N : Nat) (kf : Nat → Nat) (nu : Nat → Int32) (na : Nat → Int64) (i : Nat) (l : List Tk) : Prop := i + l.length ≤ N ∧ ∀ j, j < l.length → kf (i + j) = (l.getD j (0, 0, 0)).1 ∧ ((l.getD j (0, 0, 0)).1 = 45 → nu (i + j) = nI (l.getD j (0, 0, 0)).2.1) ∧ ((l.getD j (0, 0, 0)).1 = 44 → na (i + j) = lN (l.getD j (0, 0, 0)).2.2)
theorem gD_app {α : Type} {l u : List α} {x : α} {i : Nat} (h : i < l.length) : (l ++ u).getD i x = l.getD i x := by
  rw [List.getD_eq_getElem?_getD, List.getD_eq_getElem?_getD, List.getElem?_append_left h]
theorem gD_app2 {α : Type} {l u : List α} {x : α} (j : Nat) : (l ++ u).getD (l.length + j) x = u.getD j x := by
  rw [List.getD_eq_getElem?_getD, List.getD_eq_getElem?_getD, List.getElem?_append_right (Nat.le_add_right _ _), Nat.add_sub_cancel_left]
/-- the steps l stand from m on -/
def stA (sK sD : Nat → Int32) (m : Nat) (l : List (Nat × Int32)) : Prop := ∀ j, j < l.length → sK (m + j) = nI (l.getD j (0, 0)).1 ∧ sD (m + j) = (l.getD j (0, 0)).2
theorem stA_app {sK sD sK' sD' : Nat → Int32} {m : Nat} {l u : List (Nat × Int32)} (h : stA sK sD m l) (h2 : ∀ j, j < m + l.length → sK' j = sK j ∧ sD' j = sD j) (h3 : stA sK' sD' (m + l.length) u) : stA sK' sD' m (l ++ u) := by
  intro j hj
  rcases Nat.lt_or_ge j l.length with z | z
  · rw [gD_app z, (h2 (m + j) (by omega)).1, (h2 (m + j) (by omega)).2]
    exact h j z
  · obtain ⟨i, rfl⟩ : ∃ i, j = l.length + i := ⟨j - l.length, by omega⟩
    rw [List.length_append] at hj
    rw [gD_app2, ← Nat.add_assoc]
    exact h3 i (by omega)
theorem stA_one {sK sD : Nat → Int32} {m k : Nat} {d : Int32} : stA (upd sK m (nI k)) (upd sD m d) m [(k, d)] := by
  intro j hj
  have : j = 0 := by
    have : j < 1 := hj
    omega
  subst this
  exact ⟨us, us⟩
/-- a method reads from token i on len tokens, and puts the steps l -/
def RdW (kf : Nat → Nat) (es : Int32) (W : Int32 → Int32 → Int32 → (Nat → Int32) → (Nat → Int32) → PK → Prop) (i len : Nat) (l : List (Nat × Int32)) : Prop :=
  ∀ (m : Nat) (sK sD : Nat → Int32) (K : PK), m + l.length ≤ 400 → (∀ sK' sD', (∀ j, j < m → sK' j = sK j ∧ sD' j = sD j) → stA sK' sD' m l → K (nI (i + len), nI (kf (i + len)), 0, es, nI (m + l.length), sK', sD')) → W (nI i) (nI (kf i)) (nI m) sK sD K
section GRAM
variable {ki st nu : Nat → Int32} {na nm : Nat → Int64} {N E : Nat} {kf : Nat → Nat} {es : Int32}
theorem at_app {i : Nat} {l u : List Tk} (h : AtL N kf nu na i (l ++ u)) : AtL N kf nu na i l ∧ AtL N kf nu na (i + l.length) u := by
  obtain ⟨h1, h2⟩ := h
  rw [List.length_append] at h1 h2
  refine ⟨⟨by omega, fun j hj => ?_⟩, ⟨by omega, fun j hj => ?_⟩⟩
  · have := h2 j (by omega)
    rw [gD_app hj] at this
    exact this
  · have := h2 (l.length + j) (by omega)
    rw [gD_app2, ← Nat.add_assoc] at this
    exact this
theorem at_hd {i : Nat} {a : Tk} {u : List Tk} (h : AtL N kf nu na i (a :: u)) : i < N ∧ kf i = a.1 ∧ (a.1 = 45 → nu i = nI a.2.1) ∧ (a.1 = 44 → na i = lN a.2.2) ∧ AtL N kf nu na (i + 1) u := by
  obtain ⟨h1, h2⟩ := h
  have hl : (a :: u).length = u.length + 1 := rfl
  rw [hl] at h1 h2
  obtain ⟨g1, g2, g3⟩ := h2 0 (by omega)
  refine ⟨by omega, g1, g2, g3, by omega, fun j hj => ?_⟩
  have := h2 (j + 1) (by omega)
  rw [show i + (j + 1) = i + 1 + j by omega] at this
  exact this
theorem ad_ok (T : tkK N kf ki) {i : Nat} (hi : i < N) {x : Int32} {K : (Int32 × Int32) → Prop} (k : K (nI (i + 1), nI (kf (i + 1)))) : wX3_advance ki (nI (N + 1)) (nI i) x K := by
  obtain ⟨T1, T2⟩ := T
  unfold wX3_advance
  rw [nI_1]
  refine br_f (nI_ge (by omega) (by omega)) (br_f (nI_nlt (a := 400) (b := i + 1) (by omega) (by decide)) ⟨vp_in_nI (by omega) (by decide), ?_⟩)
  rw [nI_clamp (by omega), (T2 (i + 1) (by omega)).1]
  exact k
theorem xp_ok (T : tkK N kf ki) {i : Nat} (hi : i < N) {x y er ee : Int32} (h : x = y) {K : (Int32 × Int32 × Int32 × Int32) → Prop} (k : K (nI (i + 1), nI (kf (i + 1)), er, ee)) : wX3_expect ki st (nI (N + 1)) (nI i) x er ee y K := by
  unfold wX3_expect
  exact bn_t h (ad_ok T hi k)
theorem gd_ok (T : tkK N kf ki) {i q : Nat} (hi : i < N) (hq : q < 8) {x y er ee : Int32} (h : x = y) {K : Int32 → (Int32 × Int32 × Int32 × Int32) → Prop} (k : K 1 (nI (i + 1), nI (kf (i + 1)), er, ee)) : wX3_goesDeeper ki st (nI (N + 1)) (nI i) x er ee y (nI q) K := by
  unfold wX3_goesDeeper
  exact bn_t h (br_t (nI_lt (b := 8) hq (by decide)) (ad_ok T hi k))
theorem as_ok {m : Nat} (hm : m < 400) {sK sD : Nat → Int32} {k d : Int32} {K : (Int32 × (Nat → Int32) × (Nat → Int32)) → Prop} (kk : K (nI (m + 1), upd sK m k, upd sD m d)) : wX1_addStep (nI m) sK sD k d K := by
  unfold wX1_addStep
  refine br_f (nI_ge (b := 400) hm (by decide)) ⟨vp_in_nI hm (by decide), vp_in_nI hm (by decide), ?_⟩
  rw [nI_clamp (by omega), nI_1]
  exact kk
/-- the end of a method that puts one step more -/
theorem rd_end {i len : Nat} {l : List (Nat × Int32)} {m k : Nat} {d : Int32} {sK sD sK' sD' : Nat → Int32} {K : PK} (h1 : ∀ j, j < m → sK' j = sK j ∧ sD' j = sD j) (h2 : stA sK' sD' m l)
    (kk : ∀ sK' sD', (∀ j, j < m → sK' j = sK j ∧ sD' j = sD j) → stA sK' sD' m (l ++ [(k, d)]) → K (nI (i + len), nI (kf (i + len)), 0, es, nI (m + (l ++ [(k, d)]).length), sK', sD')) : K (nI (i + len), nI (kf (i + len)), 0, es, nI (m + l.length + 1), upd sK' (m + l.length) (nI k), upd sD' (m + l.length) d) := by
  have := kk (upd sK' (m + l.length) (nI k)) (upd sD' (m + l.length) d) (fun j hj => by rw [un (by omega), un (by omega)]; exact h1 j hj) (stA_app h2 (fun j hj => by rw [un (by omega), un (by omega)]; exact ⟨rfl, rfl⟩) stA_one)
  rw [List.length_append] at this
  exact this
abbrev WA (ki st nu : Nat → Int32) (na nm : Nat → Int64) (N E : Nat) (es : Int32) (n t q : Nat) : Int32 → Int32 → Int32 → (Nat → Int32) → (Nat → Int32) → PK → Prop := fun a k m sK sD K => wX3a n t ki st nu na (nI (N + 1)) a k 0 es (nI E) nm m sK sD (nI q) K
abbrev WB (ki st nu : Nat → Int32) (na nm : Nat → Int64) (N E : Nat) (es : Int32) (n t q : Nat) : Int32 → Int32 → Int32 → (Nat → Int32) → (Nat → Int32) → PK → Prop := fun a k m sK sD K => wX3b n t ki st nu na (nI (N + 1)) a k 0 es (nI E) nm m sK sD (nI q) K
theorem prodOne (T : tkK N kf ki) {n q i len : Nat} {l : List (Nat × Int32)} (hl : i + len ≤ N) (h : RdW kf es (WA ki st nu na nm N E es n 4 q) i len l) (n37 : kf (i + len) ≠ 37) (n38 : kf (i + len) ≠ 38) : RdW kf es (WA ki st nu na nm N E es (n + 1) 2 q) i len l := by
  intro m sK sD K hm kk
  have k1 := (T.2 (i + len) hl).2
  show wX3_readProduct_E (wX3a n) ki st nu na (nI (N + 1)) (nI i) (nI (kf i)) 0 es (nI E) nm (nI m) sK sD (nI q) K
  unfold wX3_readProduct_E
  refine h m sK sD _ hm (fun sK2 sD2 h1 h2 => ⟨1, ?_⟩)
  have fin := kk sK2 sD2 h1 h2
  have m37 : ¬ nI (kf (i + len)) = 37 := fun y => n37 ((nI_eq (by omega) (by decide)).mp y)
  have m38 : ¬ nI (kf (i + len)) = 38 := fun y => n38 ((nI_eq (by omega) (by decide)).mp y)
  unfold wX3_readProduct_7
  exact br_f (by decide) (br_f m37 (bn_f m38 fin))
theorem prodTwo (T : tkK N kf ki) {n q i len1 len2 k : Nat} {l1 l2 : List (Nat × Int32)} (hk : k = 37 ∨ k = 38) (hl : i + len1 + 1 + len2 ≤ N) (h : RdW kf es (WA ki st nu na nm N E es n 4 q) i len1 l1) (e : kf (i + len1) = k) (h2 : RdW kf es (WA ki st nu na nm N E es n 4 q) (i + len1 + 1) len2 l2) (n37 : kf (i + len1 + 1 + len2) ≠ 37) (n38 : kf (i + len1 + 1 + len2) ≠ 38) : RdW kf es (WA ki st nu na nm N E es (n + 1) 2 q) i (len1 + (1 + len2)) (l1 ++ (l2 ++ [(k, 0)])) := by
  intro m sK sD K hm kk
  have k1 := (T.2 (i + len1 + 1 + len2) hl).2
  rw [show i + (len1 + (1 + len2)) = i + len1 + 1 + len2 by omega] at kk
  rw [List.length_append, List.length_append] at hm
  have hm : m + (l1.length + (l2.length + 1)) ≤ 400 := hm
  show wX3_readProduct_E (wX3a n) ki st nu na (nI (N + 1)) (nI i) (nI (kf i)) 0 es (nI E) nm (nI m) sK sD (nI q) K
  unfold wX3_readProduct_E
  refine h m sK sD _ (by omega) (fun sK2 sD2 g1 g2 => ⟨2, ?_⟩)
  have m37 : ¬ nI (kf (i + len1 + 1 + len2)) = 37 := fun y => n37 ((nI_eq (by omega) (by decide)).mp y)
  have m38 : ¬ nI (kf (i + len1 + 1 + len2)) = 38 := fun y => n38 ((nI_eq (by omega) (by decide)).mp y)
  have fin : ∀ sK3 sD3, (∀ j, j < m + l1.length → sK3 j = sK2 j ∧ sD3 j = sD2 j) → stA sK3 sD3 (m + l1.length) l2 → wX3_readProduct_7 (wX3a n) K ki st nu na (nI (N + 1)) (nI E) nm 1 (nI (i + len1 + 1 + len2)) (nI (kf (i + len1 + 1 + len2))) 0 es (nI (m + l1.length + l2.length + 1)) (upd sK3 (m + l1.length + l2.length) (nI k)) (upd sD3 (m + l1.length + l2.length) 0) (nI q) (0 + 1) := by
    intro sK3 sD3 g3 g4
    have f1 : K (nI (i + len1 + 1 + len2), nI (kf (i + len1 + 1 + len2)), 0, es, nI (m + l1.length + l2.length + 1), upd sK3 (m + l1.length + l2.length) (nI k), upd sD3 (m + l1.length + l2.length) 0) := by
      have := kk (upd sK3 (m + l1.length + l2.length) (nI k)) (upd sD3 (m + l1.length + l2.length) 0) (fun j hj => by
        rw [un (by omega), un (by omega), (g3 j (by omega)).1, (g3 j (by omega)).2]
        exact g1 j hj) (stA_app g2 (fun j hj => by
        rw [un (by omega), un (by omega)]
        exact g3 j hj) (stA_app g4 (fun j hj => by rw [un (by omega), un (by omega)]; exact ⟨rfl, rfl⟩) stA_one))
      rw [List.length_append, List.length_append, show m + (l1.length + (l2.length + [(k, (0 : Int32))].length)) = m + l1.length + l2.length + 1 by simp only [List.length_cons, List.length_nil]; omega] at this
      exact this
    unfold wX3_readProduct_7
    exact br_f (by decide) (br_f m37 (bn_f m38 f1))
  show wX3_readProduct_7 (wX3a n) K ki st nu na (nI (N + 1)) (nI E) nm 2 (nI (i + len1)) (nI (kf (i + len1))) 0 es (nI (m + l1.length)) sK2 sD2 (nI q) 0
  have step : wX3_readProduct_32 (wX3a n) K (wX3_readProduct_7 (wX3a n) K ki st nu na (nI (N + 1)) (nI E) nm 1) ki st nu na (nI (N + 1)) (nI E) nm (nI (i + len1)) (nI k) 0 es (nI (m + l1.length)) sK2 sD2 (nI q) 0 := by
    unfold wX3_readProduct_32
    exact ad_ok T (by omega) (h2 (m + l1.length) sK2 sD2 _ (by omega) (fun sK3 sD3 g3 g4 => as_ok (by omega) (fin sK3 sD3 g3 g4)))
  rw [e]
  rw [wX3_readProduct_7]
  rcases hk with rfl | rfl
  · exact br_f (by decide) (br_t rfl step)
  · exact br_f (by decide) (br_f (by decide) (bn_t rfl step))
theorem sumOne (T : tkK N kf ki) {n q i len : Nat} {l : List (Nat × Int32)} (hl : i + len ≤ N) (h : RdW kf es (WA ki st nu na nm N E es n 2 q) i len l) (n35 : kf (i + len) ≠ 35) (n36 : kf (i + len) ≠ 36) : RdW kf es (WA ki st nu na nm N E es (n + 1) 3 q) i len l := by
  intro m sK sD K hm kk
  have k1 := (T.2 (i + len) hl).2
  show wX3_readSum_E (wX3a n) ki st nu na (nI (N + 1)) (nI i) (nI (kf i)) 0 es (nI E) nm (nI m) sK sD (nI q) K
  unfold wX3_readSum_E
  refine h m sK sD _ hm (fun sK2 sD2 h1 h2 => ⟨1, ?_⟩)
  have fin := kk sK2 sD2 h1 h2
  have m35 : ¬ nI (kf (i + len)) = 35 := fun y => n35 ((nI_eq (by omega) (by decide)).mp y)
  have m36 : ¬ nI (kf (i + len)) = 36 := fun y => n36 ((nI_eq (by omega) (by decide)).mp y)
  unfold wX3_readSum_7
  exact br_f (by decide) (br_f m35 (bn_f m36 fin))
theorem sumTwo (T : tkK N kf ki) {n q i len1 len2 k : Nat} {l1 l2 : List (Nat × Int32)} (hk : k = 35 ∨ k = 36) (hl : i + len1 + 1 + len2 ≤ N) (h : RdW kf es (WA ki st nu na nm N E es n 2 q) i len1 l1) (e : kf (i + len1) = k) (h2 : RdW kf es (WA ki st nu na nm N E es n 2 q) (i + len1 + 1) len2 l2) (n35 : kf (i + len1 + 1 + len2) ≠ 35) (n36 : kf (i + len1 + 1 + len2) ≠ 36) : RdW kf es (WA ki st nu na nm N E es (n + 1) 3 q) i (len1 + (1 + len2)) (l1 ++ (l2 ++ [(k, 0)])) := by
  intro m sK sD K hm kk
  have k1 := (T.2 (i + len1 + 1 + len2) hl).2
  rw [show i + (len1 + (1 + len2)) = i + len1 + 1 + len2 by omega] at kk
  rw [List.length_append, List.length_append] at hm
  have hm : m + (l1.length + (l2.length + 1)) ≤ 400 := hm
  show wX3_readSum_E (wX3a n) ki st nu na (nI (N + 1)) (nI i) (nI (kf i)) 0 es (nI E) nm (nI m) sK sD (nI q) K
  unfold wX3_readSum_E
  refine h m sK sD _ (by omega) (fun sK2 sD2 g1 g2 => ⟨2, ?_⟩)
  have m35 : ¬ nI (kf (i + len1 + 1 + len2)) = 35 := fun y => n35 ((nI_eq (by omega) (by decide)).mp y)
  have m36 : ¬ nI (kf (i + len1 + 1 + len2)) = 36 := fun y => n36 ((nI_eq (by omega) (by decide)).mp y)
  have fin : ∀ sK3 sD3, (∀ j, j < m + l1.length → sK3 j = sK2 j ∧ sD3 j = sD2 j) → stA sK3 sD3 (m + l1.length) l2 → wX3_readSum_7 (wX3a n) K ki st nu na (nI (N + 1)) (nI E) nm 1 (nI (i + len1 + 1 + len2)) (nI (kf (i + len1 + 1 + len2))) 0 es (nI (m + l1.length + l2.length + 1)) (upd sK3 (m + l1.length + l2.length) (nI k)) (upd sD3 (m + l1.length + l2.length) 0) (nI q) (0 + 1) := by
    intro sK3 sD3 g3 g4
    have f1 : K (nI (i + len1 + 1 + len2), nI (kf (i + len1 + 1 + len2)), 0, es, nI (m + l1.length + l2.length + 1), upd sK3 (m + l1.length + l2.length) (nI k), upd sD3 (m + l1.length + l2.length) 0) := by
      have := kk (upd sK3 (m + l1.length + l2.length) (nI k)) (upd sD3 (m + l1.length + l2.length) 0) (fun j hj => by
        rw [un (by omega), un (by omega), (g3 j (by omega)).1, (g3 j (by omega)).2]
        exact g1 j hj) (stA_app g2 (fun j hj => by
        rw [un (by omega), un (by omega)]
        exact g3 j hj) (stA_app g4 (fun j hj => by rw [un (by omega), un (by omega)]; exact ⟨rfl, rfl⟩) stA_one))
      rw [List.length_append, List.length_append, show m + (l1.length + (l2.length + [(k, (0 : Int32))].length)) = m + l1.length + l2.length + 1 by simp only [List.length_cons, List.length_nil]; omega] at this
      exact this
    unfold wX3_readSum_7
    exact br_f (by decide) (br_f m35 (bn_f m36 f1))
  show wX3_readSum_7 (wX3a n) K ki st nu na (nI (N + 1)) (nI E) nm 2 (nI (i + len1)) (nI (kf (i + len1))) 0 es (nI (m + l1.length)) sK2 sD2 (nI q) 0
  have step : wX3_readSum_32 (wX3a n) K (wX3_readSum_7 (wX3a n) K ki st nu na (nI (N + 1)) (nI E) nm 1) ki st nu na (nI (N + 1)) (nI E) nm (nI (i + len1)) (nI k) 0 es (nI (m + l1.length)) sK2 sD2 (nI q) 0 := by
    unfold wX3_readSum_32
    exact ad_ok T (by omega) (h2 (m + l1.length) sK2 sD2 _ (by omega) (fun sK3 sD3 g3 g4 => as_ok (by omega) (fin sK3 sD3 g3 g4)))
  rw [e]
  rw [wX3_readSum_7]
  rcases hk with rfl | rfl
  · exact br_f (by decide) (br_t rfl step)
  · exact br_f (by decide) (br_f (by decide) (bn_t rfl step))
theorem bothOne (T : tkK N kf ki) {n q i len : Nat} {l : List (Nat × Int32)} (hl : i + len ≤ N) (h : RdW kf es (WB ki st nu na nm N E es n 1 q) i len l) (n25 : kf (i + len) ≠ 25) : RdW kf es (WB ki st nu na nm N E es (n + 1) 0 q) i len l := by
  intro m sK sD K hm kk
  have k1 := (T.2 (i + len) hl).2
  show wX3_readBoth_E (wX3b n) ki st nu na (nI (N + 1)) (nI i) (nI (kf i)) 0 es (nI E) nm (nI m) sK sD (nI q) K
  unfold wX3_readBoth_E
  refine h m sK sD _ hm (fun sK2 sD2 h1 h2 => ⟨1, ?_⟩)
  have fin := kk sK2 sD2 h1 h2
  have m25 : ¬ nI (kf (i + len)) = 25 := fun y => n25 ((nI_eq (by omega) (by decide)).mp y)
  unfold wX3_readBoth_7
  exact br_f (by decide) (bn_f m25 fin)
theorem bothTwo (T : tkK N kf ki) {n q i len1 len2 k : Nat} {l1 l2 : List (Nat × Int32)} (hk : k = 25) (hl : i + len1 + 1 + len2 ≤ N) (h : RdW kf es (WB ki st nu na nm N E es n 1 q) i len1 l1) (e : kf (i + len1) = k) (h2 : RdW kf es (WB ki st nu na nm N E es n 1 q) (i + len1 + 1) len2 l2) (n25 : kf (i + len1 + 1 + len2) ≠ 25) : RdW kf es (WB ki st nu na nm N E es (n + 1) 0 q) i (len1 + (1 + len2)) (l1 ++ (l2 ++ [(k, 0)])) := by
  intro m sK sD K hm kk
  have k1 := (T.2 (i + len1 + 1 + len2) hl).2
  rw [show i + (len1 + (1 + len2)) = i + len1 + 1 + len2 by omega] at kk
  rw [List.length_append, List.length_append] at hm
  have hm : m + (l1.length + (l2.length + 1)) ≤ 400 := hm
  show wX3_readBoth_E (wX3b n) ki st nu na (nI (N + 1)) (nI i) (nI (kf i)) 0 es (nI E) nm (nI m) sK sD (nI q) K
  unfold wX3_readBoth_E
  refine h m sK sD _ (by omega) (fun sK2 sD2 g1 g2 => ⟨2, ?_⟩)
  have m25 : ¬ nI (kf (i + len1 + 1 + len2)) = 25 := fun y => n25 ((nI_eq (by omega) (by decide)).mp y)
  have fin : ∀ sK3 sD3, (∀ j, j < m + l1.length → sK3 j = sK2 j ∧ sD3 j = sD2 j) → stA sK3 sD3 (m + l1.length) l2 → wX3_readBoth_7 (wX3b n) K ki st nu na (nI (N + 1)) (nI E) nm 1 (nI (i + len1 + 1 + len2)) (nI (kf (i + len1 + 1 + len2))) 0 es (nI (m + l1.length + l2.length + 1)) (upd sK3 (m + l1.length + l2.length) (nI k)) (upd sD3 (m + l1.length + l2.length) 0) (nI q) (0 + 1) := by
    intro sK3 sD3 g3 g4
    have f1 : K (nI (i + len1 + 1 + len2), nI (kf (i + len1 + 1 + len2)), 0, es, nI (m + l1.length + l2.length + 1), upd sK3 (m + l1.length + l2.length) (nI k), upd sD3 (m + l1.length + l2.length) 0) := by
      have := kk (upd sK3 (m + l1.length + l2.length) (nI k)) (upd sD3 (m + l1.length + l2.length) 0) (fun j hj => by
        rw [un (by omega), un (by omega), (g3 j (by omega)).1, (g3 j (by omega)).2]
        exact g1 j hj) (stA_app g2 (fun j hj => by
        rw [un (by omega), un (by omega)]
        exact g3 j hj) (stA_app g4 (fun j hj => by rw [un (by omega), un (by omega)]; exact ⟨rfl, rfl⟩) stA_one))
      rw [List.length_append, List.length_append, show m + (l1.length + (l2.length + [(k, (0 : Int32))].length)) = m + l1.length + l2.length + 1 by simp only [List.length_cons, List.length_nil]; omega] at this
      exact this
    unfold wX3_readBoth_7
    exact br_f (by decide) (bn_f m25 f1)
  show wX3_readBoth_7 (wX3b n) K ki st nu na (nI (N + 1)) (nI E) nm 2 (nI (i + len1)) (nI (kf (i + len1))) 0 es (nI (m + l1.length)) sK2 sD2 (nI q) 0
  subst hk
  rw [e]
  rw [wX3_readBoth_7]
  exact br_f (by decide) (bn_t rfl (ad_ok T (by omega) (h2 (m + l1.length) sK2 sD2 _ (by omega) (fun sK3 sD3 g3 g4 => as_ok (by omega) (fin sK3 sD3 g3 g4)))))
theorem testOne (T : tkK N kf ki) {n q i len : Nat} {l : List (Nat × Int32)} (hl : i + len ≤ N) (h : RdW kf es (WB ki st nu na nm N E es n 0 q) i len l) (n26 : kf (i + len) ≠ 26) : RdW kf es (WB ki st nu na nm N E es (n + 1) 2 q) i len l := by
  intro m sK sD K hm kk
  have k1 := (T.2 (i + len) hl).2
  show wX3_readTest_E (wX3b n) ki st nu na (nI (N + 1)) (nI i) (nI (kf i)) 0 es (nI E) nm (nI m) sK sD (nI q) K
  unfold wX3_readTest_E
  refine h m sK sD _ hm (fun sK2 sD2 h1 h2 => ⟨1, ?_⟩)
  have fin := kk sK2 sD2 h1 h2
  have m26 : ¬ nI (kf (i + len)) = 26 := fun y => n26 ((nI_eq (by omega) (by decide)).mp y)
  unfold wX3_readTest_7
  exact br_f (by decide) (bn_f m26 fin)
theorem testTwo (T : tkK N kf ki) {n q i len1 len2 k : Nat} {l1 l2 : List (Nat × Int32)} (hk : k = 26) (hl : i + len1 + 1 + len2 ≤ N) (h : RdW kf es (WB ki st nu na nm N E es n 0 q) i len1 l1) (e : kf (i + len1) = k) (h2 : RdW kf es (WB ki st nu na nm N E es n 0 q) (i + len1 + 1) len2 l2) (n26 : kf (i + len1 + 1 + len2) ≠ 26) : RdW kf es (WB ki st nu na nm N E es (n + 1) 2 q) i (len1 + (1 + len2)) (l1 ++ (l2 ++ [(k, 0)])) := by
  intro m sK sD K hm kk
  have k1 := (T.2 (i + len1 + 1 + len2) hl).2
  rw [show i + (len1 + (1 + len2)) = i + len1 + 1 + len2 by omega] at kk
  rw [List.length_append, List.length_append] at hm
  have hm : m + (l1.length + (l2.length + 1)) ≤ 400 := hm
  show wX3_readTest_E (wX3b n) ki st nu na (nI (N + 1)) (nI i) (nI (kf i)) 0 es (nI E) nm (nI m) sK sD (nI q) K
  unfold wX3_readTest_E
  refine h m sK sD _ (by omega) (fun sK2 sD2 g1 g2 => ⟨2, ?_⟩)
  have m26 : ¬ nI (kf (i + len1 + 1 + len2)) = 26 := fun y => n26 ((nI_eq (by omega) (by decide)).mp y)
  have fin : ∀ sK3 sD3, (∀ j, j < m + l1.length → sK3 j = sK2 j ∧ sD3 j = sD2 j) → stA sK3 sD3 (m + l1.length) l2 → wX3_readTest_7 (wX3b n) K ki st nu na (nI (N + 1)) (nI E) nm 1 (nI (i + len1 + 1 + len2)) (nI (kf (i + len1 + 1 + len2))) 0 es (nI (m + l1.length + l2.length + 1)) (upd sK3 (m + l1.length + l2.length) (nI k)) (upd sD3 (m + l1.length + l2.length) 0) (nI q) (0 + 1) := by
    intro sK3 sD3 g3 g4
    have f1 : K (nI (i + len1 + 1 + len2), nI (kf (i + len1 + 1 + len2)), 0, es, nI (m + l1.length + l2.length + 1), upd sK3 (m + l1.length + l2.length) (nI k), upd sD3 (m + l1.length + l2.length) 0) := by
      have := kk (upd sK3 (m + l1.length + l2.length) (nI k)) (upd sD3 (m + l1.length + l2.length) 0) (fun j hj => by
        rw [un (by omega), un (by omega), (g3 j (by omega)).1, (g3 j (by omega)).2]
        exact g1 j hj) (stA_app g2 (fun j hj => by
        rw [un (by omega), un (by omega)]
        exact g3 j hj) (stA_app g4 (fun j hj => by rw [un (by omega), un (by omega)]; exact ⟨rfl, rfl⟩) stA_one))
      rw [List.length_append, List.length_append, show m + (l1.length + (l2.length + [(k, (0 : Int32))].length)) = m + l1.length + l2.length + 1 by simp only [List.length_cons, List.length_nil]; omega] at this
      exact this
    unfold wX3_readTest_7
    exact br_f (by decide) (bn_f m26 f1)
  show wX3_readTest_7 (wX3b n) K ki st nu na (nI (N + 1)) (nI E) nm 2 (nI (i + len1)) (nI (kf (i + len1))) 0 es (nI (m + l1.length)) sK2 sD2 (nI q) 0
  subst hk
  rw [e]
  rw [wX3_readTest_7]
  exact br_f (by decide) (bn_t rfl (ad_ok T (by omega) (h2 (m + l1.length) sK2 sD2 _ (by omega) (fun sK3 sD3 g3 g4 => as_ok (by omega) (fin sK3 sD3 g3 g4)))))
theorem nQ {q : Nat} : nI q + 1 = nI (q + 1) := nI_1 q
/-- in brackets -/
theorem encl (T : tkK N kf ki) {n q i len : Nat} {l : List (Nat × Int32)} (hl : i + 1 + len < N) (hq : q < 8) (e : kf i = 29) (h : RdW kf es (WA ki st nu na nm N E es n 3 (q + 1)) (i + 1) len l) (e2 : kf (i + 1 + len) = 30) : RdW kf es (WA ki st nu na nm N E es (n + 1) 0 q) i (1 + (len + 1)) l := by
  intro m sK sD K hm kk
  rw [show i + (1 + (len + 1)) = i + 1 + len + 1 by omega] at kk
  show wX3_readEnclosed_E (wX3a n) ki st nu na (nI (N + 1)) (nI i) (nI (kf i)) 0 es (nI E) nm (nI m) sK sD (nI q) K
  unfold wX3_readEnclosed_E
  refine gd_ok T (by omega) hq (by rw [e]; rfl) (br_f (by decide) ?_)
  rw [nQ]
  exact h m sK sD _ hm (fun sK2 sD2 h1 h2 => xp_ok T (by omega) (by rw [e2]; rfl) (kk sK2 sD2 h1 h2))
theorem pair (T : tkK N kf ki) {n q i len1 len2 : Nat} {l1 l2 : List (Nat × Int32)} (hl : i + 1 + len1 + 1 + len2 < N) (hq : q < 8) (e : kf i = 29) (h : RdW kf es (WA ki st nu na nm N E es n 3 (q + 1)) (i + 1) len1 l1) (e2 : kf (i + 1 + len1) = 34) (h2 : RdW kf es (WA ki st nu na nm N E es n 3 (q + 1)) (i + 1 + len1 + 1) len2 l2) (e3 : kf (i + 1 + len1 + 1 + len2) = 30) : RdW kf es (WA ki st nu na nm N E es (n + 1) 1 q) i (1 + (len1 + (1 + (len2 + 1)))) (l1 ++ l2) := by
  intro m sK sD K hm kk
  rw [show i + (1 + (len1 + (1 + (len2 + 1)))) = i + 1 + len1 + 1 + len2 + 1 by omega] at kk
  rw [List.length_append] at hm kk
  show wX3_readPair_E (wX3a n) ki st nu na (nI (N + 1)) (nI i) (nI (kf i)) 0 es (nI E) nm (nI m) sK sD (nI q) K
  unfold wX3_readPair_E
  refine gd_ok T (by omega) hq (by rw [e]; rfl) (br_f (by decide) ?_)
  rw [nQ]
  refine h m sK sD _ (by omega) (fun sK2 sD2 g1 g2 => xp_ok T (by omega) (by rw [e2]; rfl) ?_)
  refine h2 (m + l1.length) sK2 sD2 _ (by omega) (fun sK3 sD3 g3 g4 => xp_ok T (by omega) (by rw [e3]; rfl) ?_)
  have := kk sK3 sD3 (fun j hj => by rw [(g3 j (by omega)).1, (g3 j (by omega)).2]; exact g1 j hj) (stA_app g2 g3 g4)
  rw [← Nat.add_assoc] at this
  exact this
/-- the empires' names -/
def nmK (E : Nat) (nm : Nat → Int64) : Prop := E ≤ 3 ∧ ∀ e, e < E → nm e = lN (556 + e)
theorem emp_ok (hE : nmK E nm) {e : Nat} (he : e < E) {K : Int32 → Unit → Prop} (k : K (nI e) ()) : wX7_empireNamed (nI E) nm (lN (556 + e)) K := by
  obtain ⟨h3, hn⟩ := hE
  have lp : ∀ d i, i + d = e → wX7_empireNamed_2 K (nI E) nm (d + 1) (lN (556 + e)) (nI i) := by
    intro d
    induction d with
    | zero =>
      intro i hi
      have : i = e := by omega
      subst this
      refine br_f (nI_ge he (by omega)) ⟨vp_in_nI (by omega) (by decide), ?_⟩
      rw [nI_clamp (by omega), hn i he]
      exact bn_t ((lgc _ _).mpr rfl) k
    | succ d ih =>
      intro i hi
      refine br_f (nI_ge (by omega) (by omega)) ⟨vp_in_nI (by omega) (by decide), ?_⟩
      rw [nI_clamp (by omega), hn i (by omega), nI_1]
      refine bn_f (fun y => ?_) (ih (i + 1) (by omega))
      have := (lN_eq (by omega) (by omega)).mp ((lgc _ _).mp y)
      omega
  unfold wX7_empireNamed
  exact ⟨e + 1, lp e 0 (by omega)⟩
theorem kn_ok (T : tkK N kf ki) (hE : nmK E nm) {i e : Nat} (hi : i < N) (he : e < E) (e1 : kf i = 44) (e2 : na i = lN (556 + e)) {er ee : Int32} {K : Int32 → (Int32 × Int32 × Int32 × Int32) → Prop} (k : K (nI e) (nI (i + 1), nI (kf (i + 1)), er, ee)) : wX3_readKnownEmpire ki st na (nI (N + 1)) (nI i) (nI (kf i)) er ee (nI E) nm K := by
  have h3 := hE.1
  have h4 := T.1
  unfold wX3_readKnownEmpire
  refine br_t (by rw [e1]; rfl) ⟨vp_in_nI (by omega) (by decide), ?_⟩
  rw [nI_clamp (by omega), e2]
  refine emp_ok hE he (bn_f (nI_nm (by omega)) ?_)
  unfold wX3_readKnownEmpire_45
  exact ad_ok T hi k
theorem vNum (T : tkK N kf ki) {n q i v : Nat} (hi : i < N) (e : kf i = 45) (hv : nu i = nI v) : RdW kf es (WA ki st nu na nm N E es (n + 1) 4 q) i 1 [(45, nI v)] := by
  intro m sK sD K hm kk
  have hm : m + 1 ≤ 400 := hm
  have h4 := T.1
  show wX3_readValue_E (wX3a n) ki st nu na (nI (N + 1)) (nI i) (nI (kf i)) 0 es (nI E) nm (nI m) sK sD (nI q) K
  unfold wX3_readValue_E
  refine vs45 (by rw [e]; rfl) ⟨vp_in_nI (by omega) (by decide), ?_⟩
  rw [nI_clamp (by omega), hv]
  refine as_ok (by omega) (ad_ok T hi ?_)
  exact kk (upd sK m (nI 45)) (upd sD m (nI v)) (fun j hj => ⟨un (by omega), un (by omega)⟩) stA_one
theorem vAsk15 (T : tkK N kf ki) {n q i : Nat} (hi : i < N) (e : kf i = 15) : RdW kf es (WA ki st nu na nm N E es (n + 1) 4 q) i 1 [(15, 0)] := by
  intro m sK sD K hm kk
  have hm : m + 1 ≤ 400 := hm
  show wX3_readValue_E (wX3a n) ki st nu na (nI (N + 1)) (nI i) (nI (kf i)) 0 es (nI E) nm (nI m) sK sD (nI q) K
  unfold wX3_readValue_E
  refine vs15 (by rw [e]; rfl) ?_
  unfold wX3_readValue_175
  rw [e]
  refine as_ok (by omega) (ad_ok T hi ?_)
  exact kk (upd sK m (nI 15)) (upd sD m 0) (fun j hj => ⟨un (by omega), un (by omega)⟩) stA_one
theorem vAsk16 (T : tkK N kf ki) {n q i : Nat} (hi : i < N) (e : kf i = 16) : RdW kf es (WA ki st nu na nm N E es (n + 1) 4 q) i 1 [(16, 0)] := by
  intro m sK sD K hm kk
  have hm : m + 1 ≤ 400 := hm
  show wX3_readValue_E (wX3a n) ki st nu na (nI (N + 1)) (nI i) (nI (kf i)) 0 es (nI E) nm (nI m) sK sD (nI q) K
  unfold wX3_readValue_E
  refine vs16 (by rw [e]; rfl) ?_
  unfold wX3_readValue_175
  rw [e]
  refine as_ok (by omega) (ad_ok T hi ?_)
  exact kk (upd sK m (nI 16)) (upd sD m 0) (fun j hj => ⟨un (by omega), un (by omega)⟩) stA_one
theorem vAsk17 (T : tkK N kf ki) {n q i : Nat} (hi : i < N) (e : kf i = 17) : RdW kf es (WA ki st nu na nm N E es (n + 1) 4 q) i 1 [(17, 0)] := by
  intro m sK sD K hm kk
  have hm : m + 1 ≤ 400 := hm
  show wX3_readValue_E (wX3a n) ki st nu na (nI (N + 1)) (nI i) (nI (kf i)) 0 es (nI E) nm (nI m) sK sD (nI q) K
  unfold wX3_readValue_E
  refine vs17 (by rw [e]; rfl) ?_
  unfold wX3_readValue_175
  rw [e]
  refine as_ok (by omega) (ad_ok T hi ?_)
  exact kk (upd sK m (nI 17)) (upd sD m 0) (fun j hj => ⟨un (by omega), un (by omega)⟩) stA_one
theorem vAsk18 (T : tkK N kf ki) {n q i : Nat} (hi : i < N) (e : kf i = 18) : RdW kf es (WA ki st nu na nm N E es (n + 1) 4 q) i 1 [(18, 0)] := by
  intro m sK sD K hm kk
  have hm : m + 1 ≤ 400 := hm
  show wX3_readValue_E (wX3a n) ki st nu na (nI (N + 1)) (nI i) (nI (kf i)) 0 es (nI E) nm (nI m) sK sD (nI q) K
  unfold wX3_readValue_E
  refine vs18 (by rw [e]; rfl) ?_
  unfold wX3_readValue_175
  rw [e]
  refine as_ok (by omega) (ad_ok T hi ?_)
  exact kk (upd sK m (nI 18)) (upd sD m 0) (fun j hj => ⟨un (by omega), un (by omega)⟩) stA_one
theorem vYear19 (T : tkK N kf ki) (hE : nmK E nm) {n q i v : Nat} (hv : v < E) (hi : i + 1 + 1 < N) (e : kf i = 19) (e1 : kf (i + 1) = 10) (e2 : kf (i + 1 + 1) = 44) (e3 : na (i + 1 + 1) = lN (556 + v)) : RdW kf es (WA ki st nu na nm N E es (n + 1) 4 q) i 3 [(19, nI v)] := by
  intro m sK sD K hm kk
  have hm : m + 1 ≤ 400 := hm
  rw [show i + 3 = i + 1 + 1 + 1 from rfl] at kk
  show wX3_readValue_E (wX3a n) ki st nu na (nI (N + 1)) (nI i) (nI (kf i)) 0 es (nI E) nm (nI m) sK sD (nI q) K
  unfold wX3_readValue_E
  refine vs19 (by rw [e]; rfl) ?_
  unfold wX3_readValue_194
  rw [e]
  refine ad_ok T (by omega) (xp_ok T (by omega) (by rw [e1]; rfl) (kn_ok T hE (by omega) hv e2 e3 (as_ok (by omega) ?_)))
  exact kk (upd sK m (nI 19)) (upd sD m (nI v)) (fun j hj => ⟨un (by omega), un (by omega)⟩) stA_one
theorem vYear20 (T : tkK N kf ki) (hE : nmK E nm) {n q i v : Nat} (hv : v < E) (hi : i + 1 + 1 < N) (e : kf i = 20) (e1 : kf (i + 1) = 10) (e2 : kf (i + 1 + 1) = 44) (e3 : na (i + 1 + 1) = lN (556 + v)) : RdW kf es (WA ki st nu na nm N E es (n + 1) 4 q) i 3 [(20, nI v)] := by
  intro m sK sD K hm kk
  have hm : m + 1 ≤ 400 := hm
  rw [show i + 3 = i + 1 + 1 + 1 from rfl] at kk
  show wX3_readValue_E (wX3a n) ki st nu na (nI (N + 1)) (nI i) (nI (kf i)) 0 es (nI E) nm (nI m) sK sD (nI q) K
  unfold wX3_readValue_E
  refine vs20 (by rw [e]; rfl) ?_
  unfold wX3_readValue_194
  rw [e]
  refine ad_ok T (by omega) (xp_ok T (by omega) (by rw [e1]; rfl) (kn_ok T hE (by omega) hv e2 e3 (as_ok (by omega) ?_)))
  exact kk (upd sK m (nI 20)) (upd sD m (nI v)) (fun j hj => ⟨un (by omega), un (by omega)⟩) stA_one
theorem vHeight (T : tkK N kf ki) {n q i len : Nat} {l : List (Nat × Int32)} (hi : i < N) (e : kf i = 21) (h : RdW kf es (WA ki st nu na nm N E es n 0 q) (i + 1) len l) : RdW kf es (WA ki st nu na nm N E es (n + 1) 4 q) i (1 + len) (l ++ [(21, 0)]) := by
  intro m sK sD K hm kk
  have hm2 := hm
  rw [List.length_append] at hm2
  have hm2 : m + (l.length + 1) ≤ 400 := hm2
  rw [show i + (1 + len) = i + 1 + len by omega] at kk
  show wX3_readValue_E (wX3a n) ki st nu na (nI (N + 1)) (nI i) (nI (kf i)) 0 es (nI E) nm (nI m) sK sD (nI q) K
  unfold wX3_readValue_E
  refine vs21 (by rw [e]; rfl) (ad_ok T hi ?_)
  exact h m sK sD _ (by omega) (fun sK2 sD2 h1 h2 => as_ok (by omega) (rd_end (k := 21) (d := 0) h1 h2 kk))
theorem vParen (T : tkK N kf ki) {n q i len : Nat} {l : List (Nat × Int32)} (e : kf i = 29) (h : RdW kf es (WA ki st nu na nm N E es n 0 q) i len l) : RdW kf es (WA ki st nu na nm N E es (n + 1) 4 q) i len l := by
  intro m sK sD K hm kk
  show wX3_readValue_E (wX3a n) ki st nu na (nI (N + 1)) (nI i) (nI (kf i)) 0 es (nI E) nm (nI m) sK sD (nI q) K
  unfold wX3_readValue_E
  exact vs29 (by rw [e]; rfl) (h m sK sD _ hm kk)
theorem vTurn (T : tkK N kf ki) {n q i len : Nat} {l : List (Nat × Int32)} (hi : i < N) (hq : q < 8) (e : kf i = 36) (h : RdW kf es (WA ki st nu na nm N E es n 4 (q + 1)) (i + 1) len l) : RdW kf es (WA ki st nu na nm N E es (n + 1) 4 q) i (1 + len) (l ++ [(46, 0)]) := by
  intro m sK sD K hm kk
  have hm2 := hm
  rw [List.length_append] at hm2
  have hm2 : m + (l.length + 1) ≤ 400 := hm2
  rw [show i + (1 + len) = i + 1 + len by omega] at kk
  show wX3_readValue_E (wX3a n) ki st nu na (nI (N + 1)) (nI i) (nI (kf i)) 0 es (nI E) nm (nI m) sK sD (nI q) K
  unfold wX3_readValue_E
  refine vs36 (by rw [e]; rfl) (gd_ok T hi hq (by rw [e]; rfl) (br_f (by decide) ?_))
  rw [nQ]
  exact h m sK sD _ (by omega) (fun sK2 sD2 h1 h2 => as_ok (by omega) (rd_end (k := 46) (d := 0) h1 h2 kk))
theorem vMin27 (T : tkK N kf ki) {n q i len : Nat} {l : List (Nat × Int32)} (hi : i < N) (e : kf i = 27) (h : RdW kf es (WA ki st nu na nm N E es n 1 q) (i + 1) len l) : RdW kf es (WA ki st nu na nm N E es (n + 1) 4 q) i (1 + len) (l ++ [(27, 0)]) := by
  intro m sK sD K hm kk
  have hm2 := hm
  rw [List.length_append] at hm2
  have hm2 : m + (l.length + 1) ≤ 400 := hm2
  rw [show i + (1 + len) = i + 1 + len by omega] at kk
  show wX3_readValue_E (wX3a n) ki st nu na (nI (N + 1)) (nI i) (nI (kf i)) 0 es (nI E) nm (nI m) sK sD (nI q) K
  unfold wX3_readValue_E
  refine vs27 (by rw [e]; rfl) ?_
  unfold wX3_readValue_288
  rw [e]
  refine ad_ok T hi ?_
  exact h m sK sD _ (by omega) (fun sK2 sD2 h1 h2 => as_ok (by omega) (rd_end (k := 27) (d := 0) h1 h2 kk))
theorem vMin28 (T : tkK N kf ki) {n q i len : Nat} {l : List (Nat × Int32)} (hi : i < N) (e : kf i = 28) (h : RdW kf es (WA ki st nu na nm N E es n 1 q) (i + 1) len l) : RdW kf es (WA ki st nu na nm N E es (n + 1) 4 q) i (1 + len) (l ++ [(28, 0)]) := by
  intro m sK sD K hm kk
  have hm2 := hm
  rw [List.length_append] at hm2
  have hm2 : m + (l.length + 1) ≤ 400 := hm2
  rw [show i + (1 + len) = i + 1 + len by omega] at kk
  show wX3_readValue_E (wX3a n) ki st nu na (nI (N + 1)) (nI i) (nI (kf i)) 0 es (nI E) nm (nI m) sK sD (nI q) K
  unfold wX3_readValue_E
  refine vs28 (by rw [e]; rfl) ?_
  unfold wX3_readValue_288
  rw [e]
  refine ad_ok T hi ?_
  exact h m sK sD _ (by omega) (fun sK2 sD2 h1 h2 => as_ok (by omega) (rd_end (k := 28) (d := 0) h1 h2 kk))
theorem sSeen (T : tkK N kf ki) (hE : nmK E nm) {n q i v : Nat} (hv : v < E) (hi : i + 1 < N) (e : kf i = 22) (e2 : kf (i + 1) = 44) (e3 : na (i + 1) = lN (556 + v)) : RdW kf es (WB ki st nu na nm N E es (n + 1) 1 q) i 2 [(22, nI v)] := by
  intro m sK sD K hm kk
  have hm : m + 1 ≤ 400 := hm
  rw [show i + 2 = i + 1 + 1 from rfl] at kk
  show wX3_readSingle_E (wX3b n) ki st nu na (nI (N + 1)) (nI i) (nI (kf i)) 0 es (nI E) nm (nI m) sK sD (nI q) K
  unfold wX3_readSingle_E
  have e' : nI (kf i) = 22 := by rw [e]; rfl
  refine ⟨fun _ => ad_ok T (by omega) (kn_ok T hE (by omega) hv e2 e3 (as_ok (by omega) ?_)), fun z => absurd (e'.symm.trans z) (by decide), fun z => absurd (e'.symm.trans z) (by decide), fun z => absurd (e'.symm.trans z) (by decide), fun z _ _ _ => absurd e' z⟩
  exact kk (upd sK m (nI 22)) (upd sD m (nI v)) (fun j hj => ⟨un (by omega), un (by omega)⟩) stA_one
theorem sSure (T : tkK N kf ki) {n q i len : Nat} {l : List (Nat × Int32)} (hi : i < N) (e : kf i = 23) (h : RdW kf es (WA ki st nu na nm N E es 64 3 q) (i + 1) len l) : RdW kf es (WB ki st nu na nm N E es (n + 1) 1 q) i (1 + len) (l ++ [(23, 0)]) := by
  intro m sK sD K hm kk
  have hm2 := hm
  rw [List.length_append] at hm2
  have hm2 : m + (l.length + 1) ≤ 400 := hm2
  rw [show i + (1 + len) = i + 1 + len by omega] at kk
  show wX3_readSingle_E (wX3b n) ki st nu na (nI (N + 1)) (nI i) (nI (kf i)) 0 es (nI E) nm (nI m) sK sD (nI q) K
  unfold wX3_readSingle_E
  have e' : nI (kf i) = 23 := by rw [e]; rfl
  refine ⟨fun z => absurd (e'.symm.trans z) (by decide), fun _ => ad_ok T hi ?_, fun z => absurd (e'.symm.trans z) (by decide), fun z => absurd (e'.symm.trans z) (by decide), fun _ z _ _ => absurd e' z⟩
  unfold wX3_readSum
  exact h m sK sD _ (by omega) (fun sK2 sD2 h1 h2 => as_ok (by omega) (rd_end (k := 23) (d := 0) h1 h2 kk))
theorem sNot (T : tkK N kf ki) {n q i len : Nat} {l : List (Nat × Int32)} (hi : i < N) (hq : q < 8) (e : kf i = 24) (h : RdW kf es (WB ki st nu na nm N E es n 1 (q + 1)) (i + 1) len l) : RdW kf es (WB ki st nu na nm N E es (n + 1) 1 q) i (1 + len) (l ++ [(24, 0)]) := by
  intro m sK sD K hm kk
  have hm2 := hm
  rw [List.length_append] at hm2
  have hm2 : m + (l.length + 1) ≤ 400 := hm2
  rw [show i + (1 + len) = i + 1 + len by omega] at kk
  show wX3_readSingle_E (wX3b n) ki st nu na (nI (N + 1)) (nI i) (nI (kf i)) 0 es (nI E) nm (nI m) sK sD (nI q) K
  unfold wX3_readSingle_E
  have e' : nI (kf i) = 24 := by rw [e]; rfl
  refine ⟨fun z => absurd (e'.symm.trans z) (by decide), fun z => absurd (e'.symm.trans z) (by decide), fun _ => gd_ok T hi hq e' (br_f (by decide) ?_), fun z => absurd (e'.symm.trans z) (by decide), fun _ _ z _ => absurd e' z⟩
  rw [nQ]
  exact h m sK sD _ (by omega) (fun sK2 sD2 h1 h2 => as_ok (by omega) (rd_end (k := 24) (d := 0) h1 h2 kk))
theorem sBrk (T : tkK N kf ki) {n q i len : Nat} {l : List (Nat × Int32)} (hl : i + 1 + len < N) (hq : q < 8) (e : kf i = 31) (h : RdW kf es (WB ki st nu na nm N E es n 2 (q + 1)) (i + 1) len l) (e2 : kf (i + 1 + len) = 32) : RdW kf es (WB ki st nu na nm N E es (n + 1) 1 q) i (1 + (len + 1)) l := by
  intro m sK sD K hm kk
  rw [show i + (1 + (len + 1)) = i + 1 + len + 1 by omega] at kk
  show wX3_readSingle_E (wX3b n) ki st nu na (nI (N + 1)) (nI i) (nI (kf i)) 0 es (nI E) nm (nI m) sK sD (nI q) K
  unfold wX3_readSingle_E
  have e' : nI (kf i) = 31 := by rw [e]; rfl
  refine ⟨fun z => absurd (e'.symm.trans z) (by decide), fun z => absurd (e'.symm.trans z) (by decide), fun z => absurd (e'.symm.trans z) (by decide), fun _ => gd_ok T (by omega) hq e' (br_f (by decide) ?_), fun _ _ _ z => absurd e' z⟩
  rw [nQ]
  exact h m sK sD _ hm (fun sK2 sD2 h1 h2 => xp_ok T (by omega) (by rw [e2]; rfl) (kk sK2 sD2 h1 h2))
theorem sCmp (T : tkK N kf ki) {n q i len1 len2 k : Nat} {l1 l2 : List (Nat × Int32)} (hk : 39 ≤ k ∧ k ≤ 43) (hl : i + len1 + 1 + len2 ≤ N) (f1 : kf i ≠ 22) (f2 : kf i ≠ 23) (f3 : kf i ≠ 24) (f4 : kf i ≠ 31) (h : RdW kf es (WA ki st nu na nm N E es 64 3 q) i len1 l1) (e : kf (i + len1) = k) (h2 : RdW kf es (WA ki st nu na nm N E es 64 3 q) (i + len1 + 1) len2 l2) : RdW kf es (WB ki st nu na nm N E es (n + 1) 1 q) i (len1 + (1 + len2)) (l1 ++ (l2 ++ [(k, 0)])) := by
  intro m sK sD K hm kk
  have ki100 := (T.2 i (by omega)).2
  rw [show i + (len1 + (1 + len2)) = i + len1 + 1 + len2 by omega] at kk
  rw [List.length_append, List.length_append] at hm
  have hm : m + (l1.length + (l2.length + 1)) ≤ 400 := hm
  have nn : ∀ j : Nat, j < 100 → kf i ≠ j → ¬ nI (kf i) = nI j := fun j hj hn y => hn ((nI_eq (by omega) (by omega)).mp y)
  show wX3_readSingle_E (wX3b n) ki st nu na (nI (N + 1)) (nI i) (nI (kf i)) 0 es (nI E) nm (nI m) sK sD (nI q) K
  unfold wX3_readSingle_E wX3_readSum
  refine ⟨fun z => absurd z (nn 22 (by decide) f1), fun z => absurd z (nn 23 (by decide) f2), fun z => absurd z (nn 24 (by decide) f3), fun z => absurd z (nn 31 (by decide) f4), fun _ _ _ _ => ?_⟩
  refine h m sK sD _ (by omega) (fun sK2 sD2 g1 g2 => ?_)
  unfold wX3_expectComparison
  show (nI (kf (i + len1)) < 39 → _) ∧ (¬ nI (kf (i + len1)) < 39 → _)
  rw [e]
  refine br_f (nI_nlt (b := 39) hk.1 (by omega)) (br_f (nI_nlt (a := 43) (b := k) hk.2 (by decide)) (ad_ok T (by omega) ?_))
  refine h2 (m + l1.length) sK2 sD2 _ (by omega) (fun sK3 sD3 g3 g4 => ?_)
  show wX1_addStep (nI (m + l1.length + l2.length)) sK3 sD3 (nI k) 0 _
  refine as_ok (by omega) ?_
  have := kk (upd sK3 (m + l1.length + l2.length) (nI k)) (upd sD3 (m + l1.length + l2.length) 0) (fun j hj => by
    rw [un (by omega), un (by omega), (g3 j (by omega)).1, (g3 j (by omega)).2]
    exact g1 j hj) (stA_app g2 (fun j hj => by
    rw [un (by omega), un (by omega)]
    exact g3 j hj) (stA_app g4 (fun j hj => by rw [un (by omega), un (by omega)]; exact ⟨rfl, rfl⟩) stA_one))
  rw [List.length_append, List.length_append, show m + (l1.length + (l2.length + [(k, (0 : Int32))].length)) = m + l1.length + l2.length + 1 by simp only [List.length_cons, List.length_nil]; omega] at this
  exact this
end GRAM
