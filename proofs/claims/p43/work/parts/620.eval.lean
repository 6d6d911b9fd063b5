/-! PURE: the value of a tree; Tree.of. -/
theorem of_sw0 {y : Int32} {P0 P1 P2 P3 P4 P5 P6 P7 P8 P9 P10 P11 E : Prop} (h : y = 0) (p : P0) : (y = 0 → P0) ∧ (y = 1 → P1) ∧ (y = 2 → P2) ∧ (y = 3 → P3) ∧ (y = 4 → P4) ∧ (y = 5 → P5) ∧ (y = 6 → P6) ∧ (y = 7 → P7) ∧ (y = 8 → P8) ∧ (y = 25 → P9) ∧ (y = 26 → P10) ∧ (y = 29 → P11) ∧ (¬ y = 0 → ¬ y = 1 → ¬ y = 2 → ¬ y = 3 → ¬ y = 4 → ¬ y = 5 → ¬ y = 6 → ¬ y = 7 → ¬ y = 8 → ¬ y = 25 → ¬ y = 26 → ¬ y = 29 → E) :=
  ⟨fun _ => p, fun z => absurd (h.symm.trans z) (by decide), fun z => absurd (h.symm.trans z) (by decide), fun z => absurd (h.symm.trans z) (by decide), fun z => absurd (h.symm.trans z) (by decide), fun z => absurd (h.symm.trans z) (by decide), fun z => absurd (h.symm.trans z) (by decide), fun z => absurd (h.symm.trans z) (by decide), fun z => absurd (h.symm.trans z) (by decide), fun z => absurd (h.symm.trans z) (by decide), fun z => absurd (h.symm.trans z) (by decide), fun z => absurd (h.symm.trans z) (by decide), fun h0 h1 h2 h3 h4 h5 h6 h7 h8 h9 h10 h11 => absurd h h0⟩
theorem of_sw1 {y : Int32} {P0 P1 P2 P3 P4 P5 P6 P7 P8 P9 P10 P11 E : Prop} (h : y = 1) (p : P1) : (y = 0 → P0) ∧ (y = 1 → P1) ∧ (y = 2 → P2) ∧ (y = 3 → P3) ∧ (y = 4 → P4) ∧ (y = 5 → P5) ∧ (y = 6 → P6) ∧ (y = 7 → P7) ∧ (y = 8 → P8) ∧ (y = 25 → P9) ∧ (y = 26 → P10) ∧ (y = 29 → P11) ∧ (¬ y = 0 → ¬ y = 1 → ¬ y = 2 → ¬ y = 3 → ¬ y = 4 → ¬ y = 5 → ¬ y = 6 → ¬ y = 7 → ¬ y = 8 → ¬ y = 25 → ¬ y = 26 → ¬ y = 29 → E) :=
  ⟨fun z => absurd (h.symm.trans z) (by decide), fun _ => p, fun z => absurd (h.symm.trans z) (by decide), fun z => absurd (h.symm.trans z) (by decide), fun z => absurd (h.symm.trans z) (by decide), fun z => absurd (h.symm.trans z) (by decide), fun z => absurd (h.symm.trans z) (by decide), fun z => absurd (h.symm.trans z) (by decide), fun z => absurd (h.symm.trans z) (by decide), fun z => absurd (h.symm.trans z) (by decide), fun z => absurd (h.symm.trans z) (by decide), fun z => absurd (h.symm.trans z) (by decide), fun h0 h1 h2 h3 h4 h5 h6 h7 h8 h9 h10 h11 => absurd h h1⟩
theorem of_sw2 {y : Int32} {P0 P1 P2 P3 P4 P5 P6 P7 P8 P9 P10 P11 E : Prop} (h : y = 2) (p : P2) : (y = 0 → P0) ∧ (y = 1 → P1) ∧ (y = 2 → P2) ∧ (y = 3 → P3) ∧ (y = 4 → P4) ∧ (y = 5 → P5) ∧ (y = 6 → P6) ∧ (y = 7 → P7) ∧ (y = 8 → P8) ∧ (y = 25 → P9) ∧ (y = 26 → P10) ∧ (y = 29 → P11) ∧ (¬ y = 0 → ¬ y = 1 → ¬ y = 2 → ¬ y = 3 → ¬ y = 4 → ¬ y = 5 → ¬ y = 6 → ¬ y = 7 → ¬ y = 8 → ¬ y = 25 → ¬ y = 26 → ¬ y = 29 → E) :=
  ⟨fun z => absurd (h.symm.trans z) (by decide), fun z => absurd (h.symm.trans z) (by decide), fun _ => p, fun z => absurd (h.symm.trans z) (by decide), fun z => absurd (h.symm.trans z) (by decide), fun z => absurd (h.symm.trans z) (by decide), fun z => absurd (h.symm.trans z) (by decide), fun z => absurd (h.symm.trans z) (by decide), fun z => absurd (h.symm.trans z) (by decide), fun z => absurd (h.symm.trans z) (by decide), fun z => absurd (h.symm.trans z) (by decide), fun z => absurd (h.symm.trans z) (by decide), fun h0 h1 h2 h3 h4 h5 h6 h7 h8 h9 h10 h11 => absurd h h2⟩
theorem of_sw3 {y : Int32} {P0 P1 P2 P3 P4 P5 P6 P7 P8 P9 P10 P11 E : Prop} (h : y = 3) (p : P3) : (y = 0 → P0) ∧ (y = 1 → P1) ∧ (y = 2 → P2) ∧ (y = 3 → P3) ∧ (y = 4 → P4) ∧ (y = 5 → P5) ∧ (y = 6 → P6) ∧ (y = 7 → P7) ∧ (y = 8 → P8) ∧ (y = 25 → P9) ∧ (y = 26 → P10) ∧ (y = 29 → P11) ∧ (¬ y = 0 → ¬ y = 1 → ¬ y = 2 → ¬ y = 3 → ¬ y = 4 → ¬ y = 5 → ¬ y = 6 → ¬ y = 7 → ¬ y = 8 → ¬ y = 25 → ¬ y = 26 → ¬ y = 29 → E) :=
  ⟨fun z => absurd (h.symm.trans z) (by decide), fun z => absurd (h.symm.trans z) (by decide), fun z => absurd (h.symm.trans z) (by decide), fun _ => p, fun z => absurd (h.symm.trans z) (by decide), fun z => absurd (h.symm.trans z) (by decide), fun z => absurd (h.symm.trans z) (by decide), fun z => absurd (h.symm.trans z) (by decide), fun z => absurd (h.symm.trans z) (by decide), fun z => absurd (h.symm.trans z) (by decide), fun z => absurd (h.symm.trans z) (by decide), fun z => absurd (h.symm.trans z) (by decide), fun h0 h1 h2 h3 h4 h5 h6 h7 h8 h9 h10 h11 => absurd h h3⟩
theorem of_sw4 {y : Int32} {P0 P1 P2 P3 P4 P5 P6 P7 P8 P9 P10 P11 E : Prop} (h : y = 4) (p : P4) : (y = 0 → P0) ∧ (y = 1 → P1) ∧ (y = 2 → P2) ∧ (y = 3 → P3) ∧ (y = 4 → P4) ∧ (y = 5 → P5) ∧ (y = 6 → P6) ∧ (y = 7 → P7) ∧ (y = 8 → P8) ∧ (y = 25 → P9) ∧ (y = 26 → P10) ∧ (y = 29 → P11) ∧ (¬ y = 0 → ¬ y = 1 → ¬ y = 2 → ¬ y = 3 → ¬ y = 4 → ¬ y = 5 → ¬ y = 6 → ¬ y = 7 → ¬ y = 8 → ¬ y = 25 → ¬ y = 26 → ¬ y = 29 → E) :=
  ⟨fun z => absurd (h.symm.trans z) (by decide), fun z => absurd (h.symm.trans z) (by decide), fun z => absurd (h.symm.trans z) (by decide), fun z => absurd (h.symm.trans z) (by decide), fun _ => p, fun z => absurd (h.symm.trans z) (by decide), fun z => absurd (h.symm.trans z) (by decide), fun z => absurd (h.symm.trans z) (by decide), fun z => absurd (h.symm.trans z) (by decide), fun z => absurd (h.symm.trans z) (by decide), fun z => absurd (h.symm.trans z) (by decide), fun z => absurd (h.symm.trans z) (by decide), fun h0 h1 h2 h3 h4 h5 h6 h7 h8 h9 h10 h11 => absurd h h4⟩
theorem of_sw5 {y : Int32} {P0 P1 P2 P3 P4 P5 P6 P7 P8 P9 P10 P11 E : Prop} (h : y = 5) (p : P5) : (y = 0 → P0) ∧ (y = 1 → P1) ∧ (y = 2 → P2) ∧ (y = 3 → P3) ∧ (y = 4 → P4) ∧ (y = 5 → P5) ∧ (y = 6 → P6) ∧ (y = 7 → P7) ∧ (y = 8 → P8) ∧ (y = 25 → P9) ∧ (y = 26 → P10) ∧ (y = 29 → P11) ∧ (¬ y = 0 → ¬ y = 1 → ¬ y = 2 → ¬ y = 3 → ¬ y = 4 → ¬ y = 5 → ¬ y = 6 → ¬ y = 7 → ¬ y = 8 → ¬ y = 25 → ¬ y = 26 → ¬ y = 29 → E) :=
  ⟨fun z => absurd (h.symm.trans z) (by decide), fun z => absurd (h.symm.trans z) (by decide), fun z => absurd (h.symm.trans z) (by decide), fun z => absurd (h.symm.trans z) (by decide), fun z => absurd (h.symm.trans z) (by decide), fun _ => p, fun z => absurd (h.symm.trans z) (by decide), fun z => absurd (h.symm.trans z) (by decide), fun z => absurd (h.symm.trans z) (by decide), fun z => absurd (h.symm.trans z) (by decide), fun z => absurd (h.symm.trans z) (by decide), fun z => absurd (h.symm.trans z) (by decide), fun h0 h1 h2 h3 h4 h5 h6 h7 h8 h9 h10 h11 => absurd h h5⟩
theorem of_sw6 {y : Int32} {P0 P1 P2 P3 P4 P5 P6 P7 P8 P9 P10 P11 E : Prop} (h : y = 6) (p : P6) : (y = 0 → P0) ∧ (y = 1 → P1) ∧ (y = 2 → P2) ∧ (y = 3 → P3) ∧ (y = 4 → P4) ∧ (y = 5 → P5) ∧ (y = 6 → P6) ∧ (y = 7 → P7) ∧ (y = 8 → P8) ∧ (y = 25 → P9) ∧ (y = 26 → P10) ∧ (y = 29 → P11) ∧ (¬ y = 0 → ¬ y = 1 → ¬ y = 2 → ¬ y = 3 → ¬ y = 4 → ¬ y = 5 → ¬ y = 6 → ¬ y = 7 → ¬ y = 8 → ¬ y = 25 → ¬ y = 26 → ¬ y = 29 → E) :=
  ⟨fun z => absurd (h.symm.trans z) (by decide), fun z => absurd (h.symm.trans z) (by decide), fun z => absurd (h.symm.trans z) (by decide), fun z => absurd (h.symm.trans z) (by decide), fun z => absurd (h.symm.trans z) (by decide), fun z => absurd (h.symm.trans z) (by decide), fun _ => p, fun z => absurd (h.symm.trans z) (by decide), fun z => absurd (h.symm.trans z) (by decide), fun z => absurd (h.symm.trans z) (by decide), fun z => absurd (h.symm.trans z) (by decide), fun z => absurd (h.symm.trans z) (by decide), fun h0 h1 h2 h3 h4 h5 h6 h7 h8 h9 h10 h11 => absurd h h6⟩
theorem of_sw7 {y : Int32} {P0 P1 P2 P3 P4 P5 P6 P7 P8 P9 P10 P11 E : Prop} (h : y = 7) (p : P7) : (y = 0 → P0) ∧ (y = 1 → P1) ∧ (y = 2 → P2) ∧ (y = 3 → P3) ∧ (y = 4 → P4) ∧ (y = 5 → P5) ∧ (y = 6 → P6) ∧ (y = 7 → P7) ∧ (y = 8 → P8) ∧ (y = 25 → P9) ∧ (y = 26 → P10) ∧ (y = 29 → P11) ∧ (¬ y = 0 → ¬ y = 1 → ¬ y = 2 → ¬ y = 3 → ¬ y = 4 → ¬ y = 5 → ¬ y = 6 → ¬ y = 7 → ¬ y = 8 → ¬ y = 25 → ¬ y = 26 → ¬ y = 29 → E) :=
  ⟨fun z => absurd (h.symm.trans z) (by decide), fun z => absurd (h.symm.trans z) (by decide), fun z => absurd (h.symm.trans z) (by decide), fun z => absurd (h.symm.trans z) (by decide), fun z => absurd (h.symm.trans z) (by decide), fun z => absurd (h.symm.trans z) (by decide), fun z => absurd (h.symm.trans z) (by decide), fun _ => p, fun z => absurd (h.symm.trans z) (by decide), fun z => absurd (h.symm.trans z) (by decide), fun z => absurd (h.symm.trans z) (by decide), fun z => absurd (h.symm.trans z) (by decide), fun h0 h1 h2 h3 h4 h5 h6 h7 h8 h9 h10 h11 => absurd h h7⟩
theorem of_sw8 {y : Int32} {P0 P1 P2 P3 P4 P5 P6 P7 P8 P9 P10 P11 E : Prop} (h : y = 8) (p : P8) : (y = 0 → P0) ∧ (y = 1 → P1) ∧ (y = 2 → P2) ∧ (y = 3 → P3) ∧ (y = 4 → P4) ∧ (y = 5 → P5) ∧ (y = 6 → P6) ∧ (y = 7 → P7) ∧ (y = 8 → P8) ∧ (y = 25 → P9) ∧ (y = 26 → P10) ∧ (y = 29 → P11) ∧ (¬ y = 0 → ¬ y = 1 → ¬ y = 2 → ¬ y = 3 → ¬ y = 4 → ¬ y = 5 → ¬ y = 6 → ¬ y = 7 → ¬ y = 8 → ¬ y = 25 → ¬ y = 26 → ¬ y = 29 → E) :=
  ⟨fun z => absurd (h.symm.trans z) (by decide), fun z => absurd (h.symm.trans z) (by decide), fun z => absurd (h.symm.trans z) (by decide), fun z => absurd (h.symm.trans z) (by decide), fun z => absurd (h.symm.trans z) (by decide), fun z => absurd (h.symm.trans z) (by decide), fun z => absurd (h.symm.trans z) (by decide), fun z => absurd (h.symm.trans z) (by decide), fun _ => p, fun z => absurd (h.symm.trans z) (by decide), fun z => absurd (h.symm.trans z) (by decide), fun z => absurd (h.symm.trans z) (by decide), fun h0 h1 h2 h3 h4 h5 h6 h7 h8 h9 h10 h11 => absurd h h8⟩
theorem of_sw25 {y : Int32} {P0 P1 P2 P3 P4 P5 P6 P7 P8 P9 P10 P11 E : Prop} (h : y = 25) (p : P9) : (y = 0 → P0) ∧ (y = 1 → P1) ∧ (y = 2 → P2) ∧ (y = 3 → P3) ∧ (y = 4 → P4) ∧ (y = 5 → P5) ∧ (y = 6 → P6) ∧ (y = 7 → P7) ∧ (y = 8 → P8) ∧ (y = 25 → P9) ∧ (y = 26 → P10) ∧ (y = 29 → P11) ∧ (¬ y = 0 → ¬ y = 1 → ¬ y = 2 → ¬ y = 3 → ¬ y = 4 → ¬ y = 5 → ¬ y = 6 → ¬ y = 7 → ¬ y = 8 → ¬ y = 25 → ¬ y = 26 → ¬ y = 29 → E) :=
  ⟨fun z => absurd (h.symm.trans z) (by decide), fun z => absurd (h.symm.trans z) (by decide), fun z => absurd (h.symm.trans z) (by decide), fun z => absurd (h.symm.trans z) (by decide), fun z => absurd (h.symm.trans z) (by decide), fun z => absurd (h.symm.trans z) (by decide), fun z => absurd (h.symm.trans z) (by decide), fun z => absurd (h.symm.trans z) (by decide), fun z => absurd (h.symm.trans z) (by decide), fun _ => p, fun z => absurd (h.symm.trans z) (by decide), fun z => absurd (h.symm.trans z) (by decide), fun h0 h1 h2 h3 h4 h5 h6 h7 h8 h9 h10 h11 => absurd h h9⟩
theorem of_sw26 {y : Int32} {P0 P1 P2 P3 P4 P5 P6 P7 P8 P9 P10 P11 E : Prop} (h : y = 26) (p : P10) : (y = 0 → P0) ∧ (y = 1 → P1) ∧ (y = 2 → P2) ∧ (y = 3 → P3) ∧ (y = 4 → P4) ∧ (y = 5 → P5) ∧ (y = 6 → P6) ∧ (y = 7 → P7) ∧ (y = 8 → P8) ∧ (y = 25 → P9) ∧ (y = 26 → P10) ∧ (y = 29 → P11) ∧ (¬ y = 0 → ¬ y = 1 → ¬ y = 2 → ¬ y = 3 → ¬ y = 4 → ¬ y = 5 → ¬ y = 6 → ¬ y = 7 → ¬ y = 8 → ¬ y = 25 → ¬ y = 26 → ¬ y = 29 → E) :=
  ⟨fun z => absurd (h.symm.trans z) (by decide), fun z => absurd (h.symm.trans z) (by decide), fun z => absurd (h.symm.trans z) (by decide), fun z => absurd (h.symm.trans z) (by decide), fun z => absurd (h.symm.trans z) (by decide), fun z => absurd (h.symm.trans z) (by decide), fun z => absurd (h.symm.trans z) (by decide), fun z => absurd (h.symm.trans z) (by decide), fun z => absurd (h.symm.trans z) (by decide), fun z => absurd (h.symm.trans z) (by decide), fun _ => p, fun z => absurd (h.symm.trans z) (by decide), fun h0 h1 h2 h3 h4 h5 h6 h7 h8 h9 h10 h11 => absurd h h10⟩
theorem of_sw29 {y : Int32} {P0 P1 P2 P3 P4 P5 P6 P7 P8 P9 P10 P11 E : Prop} (h : y = 29) (p : P11) : (y = 0 → P0) ∧ (y = 1 → P1) ∧ (y = 2 → P2) ∧ (y = 3 → P3) ∧ (y = 4 → P4) ∧ (y = 5 → P5) ∧ (y = 6 → P6) ∧ (y = 7 → P7) ∧ (y = 8 → P8) ∧ (y = 25 → P9) ∧ (y = 26 → P10) ∧ (y = 29 → P11) ∧ (¬ y = 0 → ¬ y = 1 → ¬ y = 2 → ¬ y = 3 → ¬ y = 4 → ¬ y = 5 → ¬ y = 6 → ¬ y = 7 → ¬ y = 8 → ¬ y = 25 → ¬ y = 26 → ¬ y = 29 → E) :=
  ⟨fun z => absurd (h.symm.trans z) (by decide), fun z => absurd (h.symm.trans z) (by decide), fun z => absurd (h.symm.trans z) (by decide), fun z => absurd (h.symm.trans z) (by decide), fun z => absurd (h.symm.trans z) (by decide), fun z => absurd (h.symm.trans z) (by decide), fun z => absurd (h.symm.trans z) (by decide), fun z => absurd (h.symm.trans z) (by decide), fun z => absurd (h.symm.trans z) (by decide), fun z => absurd (h.symm.trans z) (by decide), fun z => absurd (h.symm.trans z) (by decide), fun _ => p, fun h0 h1 h2 h3 h4 h5 h6 h7 h8 h9 h10 h11 => absurd h h11⟩
theorem of_swD {y : Int32} {P0 P1 P2 P3 P4 P5 P6 P7 P8 P9 P10 P11 E : Prop} (h0 : ¬ y = 0) (h1 : ¬ y = 1) (h2 : ¬ y = 2) (h3 : ¬ y = 3) (h4 : ¬ y = 4) (h5 : ¬ y = 5) (h6 : ¬ y = 6) (h7 : ¬ y = 7) (h8 : ¬ y = 8) (h9 : ¬ y = 25) (h10 : ¬ y = 26) (h11 : ¬ y = 29) (p : E) : (y = 0 → P0) ∧ (y = 1 → P1) ∧ (y = 2 → P2) ∧ (y = 3 → P3) ∧ (y = 4 → P4) ∧ (y = 5 → P5) ∧ (y = 6 → P6) ∧ (y = 7 → P7) ∧ (y = 8 → P8) ∧ (y = 25 → P9) ∧ (y = 26 → P10) ∧ (y = 29 → P11) ∧ (¬ y = 0 → ¬ y = 1 → ¬ y = 2 → ¬ y = 3 → ¬ y = 4 → ¬ y = 5 → ¬ y = 6 → ¬ y = 7 → ¬ y = 8 → ¬ y = 25 → ¬ y = 26 → ¬ y = 29 → E) :=
  ⟨fun z => absurd z h0, fun z => absurd z h1, fun z => absurd z h2, fun z => absurd z h3, fun z => absurd z h4, fun z => absurd z h5, fun z => absurd z h6, fun z => absurd z h7, fun z => absurd z h8, fun z => absurd z h9, fun z => absurd z h10, fun z => absurd z h11, fun _ _ _ _ _ _ _ _ _ _ _ _ => p⟩
theorem two_sw9 {y : Int32} {P0 P1 P2 P3 P4 P5 P6 P7 P8 P9 P10 P11 E : Prop} (h : y = 9) (p : P0) : (y = 9 → P0) ∧ (y = 10 → P1) ∧ (y = 11 → P2) ∧ (y = 12 → P3) ∧ (y = 13 → P4) ∧ (y = 14 → P5) ∧ (y = 20 → P6) ∧ (y = 21 → P7) ∧ (y = 22 → P8) ∧ (y = 23 → P9) ∧ (y = 24 → P10) ∧ (y = 30 → P11) ∧ (¬ y = 9 → ¬ y = 10 → ¬ y = 11 → ¬ y = 12 → ¬ y = 13 → ¬ y = 14 → ¬ y = 20 → ¬ y = 21 → ¬ y = 22 → ¬ y = 23 → ¬ y = 24 → ¬ y = 30 → E) :=
  ⟨fun _ => p, fun z => absurd (h.symm.trans z) (by decide), fun z => absurd (h.symm.trans z) (by decide), fun z => absurd (h.symm.trans z) (by decide), fun z => absurd (h.symm.trans z) (by decide), fun z => absurd (h.symm.trans z) (by decide), fun z => absurd (h.symm.trans z) (by decide), fun z => absurd (h.symm.trans z) (by decide), fun z => absurd (h.symm.trans z) (by decide), fun z => absurd (h.symm.trans z) (by decide), fun z => absurd (h.symm.trans z) (by decide), fun z => absurd (h.symm.trans z) (by decide), fun h0 h1 h2 h3 h4 h5 h6 h7 h8 h9 h10 h11 => absurd h h0⟩
theorem two_sw10 {y : Int32} {P0 P1 P2 P3 P4 P5 P6 P7 P8 P9 P10 P11 E : Prop} (h : y = 10) (p : P1) : (y = 9 → P0) ∧ (y = 10 → P1) ∧ (y = 11 → P2) ∧ (y = 12 → P3) ∧ (y = 13 → P4) ∧ (y = 14 → P5) ∧ (y = 20 → P6) ∧ (y = 21 → P7) ∧ (y = 22 → P8) ∧ (y = 23 → P9) ∧ (y = 24 → P10) ∧ (y = 30 → P11) ∧ (¬ y = 9 → ¬ y = 10 → ¬ y = 11 → ¬ y = 12 → ¬ y = 13 → ¬ y = 14 → ¬ y = 20 → ¬ y = 21 → ¬ y = 22 → ¬ y = 23 → ¬ y = 24 → ¬ y = 30 → E) :=
  ⟨fun z => absurd (h.symm.trans z) (by decide), fun _ => p, fun z => absurd (h.symm.trans z) (by decide), fun z => absurd (h.symm.trans z) (by decide), fun z => absurd (h.symm.trans z) (by decide), fun z => absurd (h.symm.trans z) (by decide), fun z => absurd (h.symm.trans z) (by decide), fun z => absurd (h.symm.trans z) (by decide), fun z => absurd (h.symm.trans z) (by decide), fun z => absurd (h.symm.trans z) (by decide), fun z => absurd (h.symm.trans z) (by decide), fun z => absurd (h.symm.trans z) (by decide), fun h0 h1 h2 h3 h4 h5 h6 h7 h8 h9 h10 h11 => absurd h h1⟩
theorem two_sw11 {y : Int32} {P0 P1 P2 P3 P4 P5 P6 P7 P8 P9 P10 P11 E : Prop} (h : y = 11) (p : P2) : (y = 9 → P0) ∧ (y = 10 → P1) ∧ (y = 11 → P2) ∧ (y = 12 → P3) ∧ (y = 13 → P4) ∧ (y = 14 → P5) ∧ (y = 20 → P6) ∧ (y = 21 → P7) ∧ (y = 22 → P8) ∧ (y = 23 → P9) ∧ (y = 24 → P10) ∧ (y = 30 → P11) ∧ (¬ y = 9 → ¬ y = 10 → ¬ y = 11 → ¬ y = 12 → ¬ y = 13 → ¬ y = 14 → ¬ y = 20 → ¬ y = 21 → ¬ y = 22 → ¬ y = 23 → ¬ y = 24 → ¬ y = 30 → E) :=
  ⟨fun z => absurd (h.symm.trans z) (by decide), fun z => absurd (h.symm.trans z) (by decide), fun _ => p, fun z => absurd (h.symm.trans z) (by decide), fun z => absurd (h.symm.trans z) (by decide), fun z => absurd (h.symm.trans z) (by decide), fun z => absurd (h.symm.trans z) (by decide), fun z => absurd (h.symm.trans z) (by decide), fun z => absurd (h.symm.trans z) (by decide), fun z => absurd (h.symm.trans z) (by decide), fun z => absurd (h.symm.trans z) (by decide), fun z => absurd (h.symm.trans z) (by decide), fun h0 h1 h2 h3 h4 h5 h6 h7 h8 h9 h10 h11 => absurd h h2⟩
theorem two_sw12 {y : Int32} {P0 P1 P2 P3 P4 P5 P6 P7 P8 P9 P10 P11 E : Prop} (h : y = 12) (p : P3) : (y = 9 → P0) ∧ (y = 10 → P1) ∧ (y = 11 → P2) ∧ (y = 12 → P3) ∧ (y = 13 → P4) ∧ (y = 14 → P5) ∧ (y = 20 → P6) ∧ (y = 21 → P7) ∧ (y = 22 → P8) ∧ (y = 23 → P9) ∧ (y = 24 → P10) ∧ (y = 30 → P11) ∧ (¬ y = 9 → ¬ y = 10 → ¬ y = 11 → ¬ y = 12 → ¬ y = 13 → ¬ y = 14 → ¬ y = 20 → ¬ y = 21 → ¬ y = 22 → ¬ y = 23 → ¬ y = 24 → ¬ y = 30 → E) :=
  ⟨fun z => absurd (h.symm.trans z) (by decide), fun z => absurd (h.symm.trans z) (by decide), fun z => absurd (h.symm.trans z) (by decide), fun _ => p, fun z => absurd (h.symm.trans z) (by decide), fun z => absurd (h.symm.trans z) (by decide), fun z => absurd (h.symm.trans z) (by decide), fun z => absurd (h.symm.trans z) (by decide), fun z => absurd (h.symm.trans z) (by decide), fun z => absurd (h.symm.trans z) (by decide), fun z => absurd (h.symm.trans z) (by decide), fun z => absurd (h.symm.trans z) (by decide), fun h0 h1 h2 h3 h4 h5 h6 h7 h8 h9 h10 h11 => absurd h h3⟩
theorem two_sw13 {y : Int32} {P0 P1 P2 P3 P4 P5 P6 P7 P8 P9 P10 P11 E : Prop} (h : y = 13) (p : P4) : (y = 9 → P0) ∧ (y = 10 → P1) ∧ (y = 11 → P2) ∧ (y = 12 → P3) ∧ (y = 13 → P4) ∧ (y = 14 → P5) ∧ (y = 20 → P6) ∧ (y = 21 → P7) ∧ (y = 22 → P8) ∧ (y = 23 → P9) ∧ (y = 24 → P10) ∧ (y = 30 → P11) ∧ (¬ y = 9 → ¬ y = 10 → ¬ y = 11 → ¬ y = 12 → ¬ y = 13 → ¬ y = 14 → ¬ y = 20 → ¬ y = 21 → ¬ y = 22 → ¬ y = 23 → ¬ y = 24 → ¬ y = 30 → E) :=
  ⟨fun z => absurd (h.symm.trans z) (by decide), fun z => absurd (h.symm.trans z) (by decide), fun z => absurd (h.symm.trans z) (by decide), fun z => absurd (h.symm.trans z) (by decide), fun _ => p, fun z => absurd (h.symm.trans z) (by decide), fun z => absurd (h.symm.trans z) (by decide), fun z => absurd (h.symm.trans z) (by decide), fun z => absurd (h.symm.trans z) (by decide), fun z => absurd (h.symm.trans z) (by decide), fun z => absurd (h.symm.trans z) (by decide), fun z => absurd (h.symm.trans z) (by decide), fun h0 h1 h2 h3 h4 h5 h6 h7 h8 h9 h10 h11 => absurd h h4⟩
theorem two_sw14 {y : Int32} {P0 P1 P2 P3 P4 P5 P6 P7 P8 P9 P10 P11 E : Prop} (h : y = 14) (p : P5) : (y = 9 → P0) ∧ (y = 10 → P1) ∧ (y = 11 → P2) ∧ (y = 12 → P3) ∧ (y = 13 → P4) ∧ (y = 14 → P5) ∧ (y = 20 → P6) ∧ (y = 21 → P7) ∧ (y = 22 → P8) ∧ (y = 23 → P9) ∧ (y = 24 → P10) ∧ (y = 30 → P11) ∧ (¬ y = 9 → ¬ y = 10 → ¬ y = 11 → ¬ y = 12 → ¬ y = 13 → ¬ y = 14 → ¬ y = 20 → ¬ y = 21 → ¬ y = 22 → ¬ y = 23 → ¬ y = 24 → ¬ y = 30 → E) :=
  ⟨fun z => absurd (h.symm.trans z) (by decide), fun z => absurd (h.symm.trans z) (by decide), fun z => absurd (h.symm.trans z) (by decide), fun z => absurd (h.symm.trans z) (by decide), fun z => absurd (h.symm.trans z) (by decide), fun _ => p, fun z => absurd (h.symm.trans z) (by decide), fun z => absurd (h.symm.trans z) (by decide), fun z => absurd (h.symm.trans z) (by decide), fun z => absurd (h.symm.trans z) (by decide), fun z => absurd (h.symm.trans z) (by decide), fun z => absurd (h.symm.trans z) (by decide), fun h0 h1 h2 h3 h4 h5 h6 h7 h8 h9 h10 h11 => absurd h h5⟩
theorem two_sw20 {y : Int32} {P0 P1 P2 P3 P4 P5 P6 P7 P8 P9 P10 P11 E : Prop} (h : y = 20) (p : P6) : (y = 9 → P0) ∧ (y = 10 → P1) ∧ (y = 11 → P2) ∧ (y = 12 → P3) ∧ (y = 13 → P4) ∧ (y = 14 → P5) ∧ (y = 20 → P6) ∧ (y = 21 → P7) ∧ (y = 22 → P8) ∧ (y = 23 → P9) ∧ (y = 24 → P10) ∧ (y = 30 → P11) ∧ (¬ y = 9 → ¬ y = 10 → ¬ y = 11 → ¬ y = 12 → ¬ y = 13 → ¬ y = 14 → ¬ y = 20 → ¬ y = 21 → ¬ y = 22 → ¬ y = 23 → ¬ y = 24 → ¬ y = 30 → E) :=
  ⟨fun z => absurd (h.symm.trans z) (by decide), fun z => absurd (h.symm.trans z) (by decide), fun z => absurd (h.symm.trans z) (by decide), fun z => absurd (h.symm.trans z) (by decide), fun z => absurd (h.symm.trans z) (by decide), fun z => absurd (h.symm.trans z) (by decide), fun _ => p, fun z => absurd (h.symm.trans z) (by decide), fun z => absurd (h.symm.trans z) (by decide), fun z => absurd (h.symm.trans z) (by decide), fun z => absurd (h.symm.trans z) (by decide), fun z => absurd (h.symm.trans z) (by decide), fun h0 h1 h2 h3 h4 h5 h6 h7 h8 h9 h10 h11 => absurd h h6⟩
theorem two_sw21 {y : Int32} {P0 P1 P2 P3 P4 P5 P6 P7 P8 P9 P10 P11 E : Prop} (h : y = 21) (p : P7) : (y = 9 → P0) ∧ (y = 10 → P1) ∧ (y = 11 → P2) ∧ (y = 12 → P3) ∧ (y = 13 → P4) ∧ (y = 14 → P5) ∧ (y = 20 → P6) ∧ (y = 21 → P7) ∧ (y = 22 → P8) ∧ (y = 23 → P9) ∧ (y = 24 → P10) ∧ (y = 30 → P11) ∧ (¬ y = 9 → ¬ y = 10 → ¬ y = 11 → ¬ y = 12 → ¬ y = 13 → ¬ y = 14 → ¬ y = 20 → ¬ y = 21 → ¬ y = 22 → ¬ y = 23 → ¬ y = 24 → ¬ y = 30 → E) :=
  ⟨fun z => absurd (h.symm.trans z) (by decide), fun z => absurd (h.symm.trans z) (by decide), fun z => absurd (h.symm.trans z) (by decide), fun z => absurd (h.symm.trans z) (by decide), fun z => absurd (h.symm.trans z) (by decide), fun z => absurd (h.symm.trans z) (by decide), fun z => absurd (h.symm.trans z) (by decide), fun _ => p, fun z => absurd (h.symm.trans z) (by decide), fun z => absurd (h.symm.trans z) (by decide), fun z => absurd (h.symm.trans z) (by decide), fun z => absurd (h.symm.trans z) (by decide), fun h0 h1 h2 h3 h4 h5 h6 h7 h8 h9 h10 h11 => absurd h h7⟩
theorem two_sw22 {y : Int32} {P0 P1 P2 P3 P4 P5 P6 P7 P8 P9 P10 P11 E : Prop} (h : y = 22) (p : P8) : (y = 9 → P0) ∧ (y = 10 → P1) ∧ (y = 11 → P2) ∧ (y = 12 → P3) ∧ (y = 13 → P4) ∧ (y = 14 → P5) ∧ (y = 20 → P6) ∧ (y = 21 → P7) ∧ (y = 22 → P8) ∧ (y = 23 → P9) ∧ (y = 24 → P10) ∧ (y = 30 → P11) ∧ (¬ y = 9 → ¬ y = 10 → ¬ y = 11 → ¬ y = 12 → ¬ y = 13 → ¬ y = 14 → ¬ y = 20 → ¬ y = 21 → ¬ y = 22 → ¬ y = 23 → ¬ y = 24 → ¬ y = 30 → E) :=
  ⟨fun z => absurd (h.symm.trans z) (by decide), fun z => absurd (h.symm.trans z) (by decide), fun z => absurd (h.symm.trans z) (by decide), fun z => absurd (h.symm.trans z) (by decide), fun z => absurd (h.symm.trans z) (by decide), fun z => absurd (h.symm.trans z) (by decide), fun z => absurd (h.symm.trans z) (by decide), fun z => absurd (h.symm.trans z) (by decide), fun _ => p, fun z => absurd (h.symm.trans z) (by decide), fun z => absurd (h.symm.trans z) (by decide), fun z => absurd (h.symm.trans z) (by decide), fun h0 h1 h2 h3 h4 h5 h6 h7 h8 h9 h10 h11 => absurd h h8⟩
theorem two_sw23 {y : Int32} {P0 P1 P2 P3 P4 P5 P6 P7 P8 P9 P10 P11 E : Prop} (h : y = 23) (p : P9) : (y = 9 → P0) ∧ (y = 10 → P1) ∧ (y = 11 → P2) ∧ (y = 12 → P3) ∧ (y = 13 → P4) ∧ (y = 14 → P5) ∧ (y = 20 → P6) ∧ (y = 21 → P7) ∧ (y = 22 → P8) ∧ (y = 23 → P9) ∧ (y = 24 → P10) ∧ (y = 30 → P11) ∧ (¬ y = 9 → ¬ y = 10 → ¬ y = 11 → ¬ y = 12 → ¬ y = 13 → ¬ y = 14 → ¬ y = 20 → ¬ y = 21 → ¬ y = 22 → ¬ y = 23 → ¬ y = 24 → ¬ y = 30 → E) :=
  ⟨fun z => absurd (h.symm.trans z) (by decide), fun z => absurd (h.symm.trans z) (by decide), fun z => absurd (h.symm.trans z) (by decide), fun z => absurd (h.symm.trans z) (by decide), fun z => absurd (h.symm.trans z) (by decide), fun z => absurd (h.symm.trans z) (by decide), fun z => absurd (h.symm.trans z) (by decide), fun z => absurd (h.symm.trans z) (by decide), fun z => absurd (h.symm.trans z) (by decide), fun _ => p, fun z => absurd (h.symm.trans z) (by decide), fun z => absurd (h.symm.trans z) (by decide), fun h0 h1 h2 h3 h4 h5 h6 h7 h8 h9 h10 h11 => absurd h h9⟩
theorem two_sw24 {y : Int32} {P0 P1 P2 P3 P4 P5 P6 P7 P8 P9 P10 P11 E : Prop} (h : y = 24) (p : P10) : (y = 9 → P0) ∧ (y = 10 → P1) ∧ (y = 11 → P2) ∧ (y = 12 → P3) ∧ (y = 13 → P4) ∧ (y = 14 → P5) ∧ (y = 20 → P6) ∧ (y = 21 → P7) ∧ (y = 22 → P8) ∧ (y = 23 → P9) ∧ (y = 24 → P10) ∧ (y = 30 → P11) ∧ (¬ y = 9 → ¬ y = 10 → ¬ y = 11 → ¬ y = 12 → ¬ y = 13 → ¬ y = 14 → ¬ y = 20 → ¬ y = 21 → ¬ y = 22 → ¬ y = 23 → ¬ y = 24 → ¬ y = 30 → E) :=
  ⟨fun z => absurd (h.symm.trans z) (by decide), fun z => absurd (h.symm.trans z) (by decide), fun z => absurd (h.symm.trans z) (by decide), fun z => absurd (h.symm.trans z) (by decide), fun z => absurd (h.symm.trans z) (by decide), fun z => absurd (h.symm.trans z) (by decide), fun z => absurd (h.symm.trans z) (by decide), fun z => absurd (h.symm.trans z) (by decide), fun z => absurd (h.symm.trans z) (by decide), fun z => absurd (h.symm.trans z) (by decide), fun _ => p, fun z => absurd (h.symm.trans z) (by decide), fun h0 h1 h2 h3 h4 h5 h6 h7 h8 h9 h10 h11 => absurd h h10⟩
theorem two_sw30 {y : Int32} {P0 P1 P2 P3 P4 P5 P6 P7 P8 P9 P10 P11 E : Prop} (h : y = 30) (p : P11) : (y = 9 → P0) ∧ (y = 10 → P1) ∧ (y = 11 → P2) ∧ (y = 12 → P3) ∧ (y = 13 → P4) ∧ (y = 14 → P5) ∧ (y = 20 → P6) ∧ (y = 21 → P7) ∧ (y = 22 → P8) ∧ (y = 23 → P9) ∧ (y = 24 → P10) ∧ (y = 30 → P11) ∧ (¬ y = 9 → ¬ y = 10 → ¬ y = 11 → ¬ y = 12 → ¬ y = 13 → ¬ y = 14 → ¬ y = 20 → ¬ y = 21 → ¬ y = 22 → ¬ y = 23 → ¬ y = 24 → ¬ y = 30 → E) :=
  ⟨fun z => absurd (h.symm.trans z) (by decide), fun z => absurd (h.symm.trans z) (by decide), fun z => absurd (h.symm.trans z) (by decide), fun z => absurd (h.symm.trans z) (by decide), fun z => absurd (h.symm.trans z) (by decide), fun z => absurd (h.symm.trans z) (by decide), fun z => absurd (h.symm.trans z) (by decide), fun z => absurd (h.symm.trans z) (by decide), fun z => absurd (h.symm.trans z) (by decide), fun z => absurd (h.symm.trans z) (by decide), fun z => absurd (h.symm.trans z) (by decide), fun _ => p, fun h0 h1 h2 h3 h4 h5 h6 h7 h8 h9 h10 h11 => absurd h h11⟩
theorem two_swD {y : Int32} {P0 P1 P2 P3 P4 P5 P6 P7 P8 P9 P10 P11 E : Prop} (h0 : ¬ y = 9) (h1 : ¬ y = 10) (h2 : ¬ y = 11) (h3 : ¬ y = 12) (h4 : ¬ y = 13) (h5 : ¬ y = 14) (h6 : ¬ y = 20) (h7 : ¬ y = 21) (h8 : ¬ y = 22) (h9 : ¬ y = 23) (h10 : ¬ y = 24) (h11 : ¬ y = 30) (p : E) : (y = 9 → P0) ∧ (y = 10 → P1) ∧ (y = 11 → P2) ∧ (y = 12 → P3) ∧ (y = 13 → P4) ∧ (y = 14 → P5) ∧ (y = 20 → P6) ∧ (y = 21 → P7) ∧ (y = 22 → P8) ∧ (y = 23 → P9) ∧ (y = 24 → P10) ∧ (y = 30 → P11) ∧ (¬ y = 9 → ¬ y = 10 → ¬ y = 11 → ¬ y = 12 → ¬ y = 13 → ¬ y = 14 → ¬ y = 20 → ¬ y = 21 → ¬ y = 22 → ¬ y = 23 → ¬ y = 24 → ¬ y = 30 → E) :=
  ⟨fun z => absurd z h0, fun z => absurd z h1, fun z => absurd z h2, fun z => absurd z h3, fun z => absurd z h4, fun z => absurd z h5, fun z => absurd z h6, fun z => absurd z h7, fun z => absurd z h8, fun z => absurd z h9, fun z => absurd z h10, fun z => absurd z h11, fun _ _ _ _ _ _ _ _ _ _ _ _ => p⟩
/-- the class's step of a tree's kind -/
def cK (k : Nat) : Nat := match k with | 0 => 45 | 1 => 15 | 2 => 16 | 3 => 17 | 4 => 18 | 5 => 19 | 6 => 20 | 7 => 21 | 8 => 46 | 9 => 35 | 10 => 36 | 11 => 37 | 12 => 38 | 13 => 27 | 14 => 28 | 20 => 39 | 21 => 40 | 22 => 41 | 23 => 42 | 24 => 43 | 25 => 22 | 26 => 23 | 29 => 24 | 30 => 25 | _ => 26
def evT (t : Tl) (a : Sg) (pr : Nat → Bool) (fa : Nat → Nat) (dy sl : Int32) : (d : Nat) → Tr d → Int32
  | 0, _ => 0
  | d + 1, x => match arK (cK (trQ x)) with
    | 0 => as0 t pr fa dy sl (cK (trQ x)) (nI (trN x))
    | 1 => un1 a (tN t) fa (cK (trQ x)) (evT t a pr fa dy sl d (trL x))
    | _ => jnV (cK (trQ x)) (evT t a pr fa dy sl d (trL x)) (evT t a pr fa dy sl d (trR x))
section EVAL
variable {Z : gZ} {H : gH} {ad : Nat → Nat} {t : Tl} {a : Sg} {pr : Nat → Bool} {fa : Nat → Nat} {dy ca du sl : Int32}
theorem evT0 {d : Nat} {x : Tr (d + 1)} (h : arK (cK (trQ x)) = 0) : evT t a pr fa dy sl (d + 1) x = as0 t pr fa dy sl (cK (trQ x)) (nI (trN x)) := by
  rw [evT, h]
  rfl
theorem evT1 {d : Nat} {x : Tr (d + 1)} (h : arK (cK (trQ x)) = 1) : evT t a pr fa dy sl (d + 1) x = un1 a (tN t) fa (cK (trQ x)) (evT t a pr fa dy sl d (trL x)) := by
  rw [evT, h]
  rfl
theorem evT2 {d : Nat} {x : Tr (d + 1)} (h : arK (cK (trQ x)) = 2) : evT t a pr fa dy sl (d + 1) x = jnV (cK (trQ x)) (evT t a pr fa dy sl d (trL x)) (evT t a pr fa dy sl d (trR x)) := by
  rw [evT, h]
  rfl
theorem i32_div_m1 (x : Int32) : x / (-1) = -x := by
  apply Int32.toInt_inj.1
  rw [Int32.toInt_div, show (-1 : Int32).toInt = -1 from rfl, Int32.toInt_neg, Int.tdiv_neg, Int.tdiv_one]
theorem zB1_01 (b : Bool) : zB1w b = 0 ∨ zB1w b = 1 := by cases b <;> decide
theorem k_tests {k : Nat} (h : 20 ≤ k ∧ k ≤ 31 ∧ k ≠ 27 ∧ k ≠ 28) : k = 20 ∨ k = 21 ∨ k = 22 ∨ k = 23 ∨ k = 24 ∨ k = 25 ∨ k = 26 ∨ k = 29 ∨ k = 30 ∨ k = 31 := by omega
theorem k_sums {k : Nat} (h : k ≤ 14) : k = 0 ∨ k = 1 ∨ k = 2 ∨ k = 3 ∨ k = 4 ∨ k = 5 ∨ k = 6 ∨ k = 7 ∨ k = 8 ∨ k = 9 ∨ k = 10 ∨ k = 11 ∨ k = 12 ∨ k = 13 ∨ k = 14 := by omega
theorem evT_01 : ∀ {d : Nat} {x : Tr d}, trW (tE t) d true x → evT t a pr fa dy sl d x = 0 ∨ evT t a pr fa dy sl d x = 1 := by
  intro d
  induction d with
  | zero => intro x h; exact h.elim
  | succ d ih =>
    intro x h
    obtain ⟨h1, -, -, h4, h5⟩ := h
    rw [if_pos rfl] at h1
    have c01 : ∀ x y : Int32, (x = 0 ∨ x = 1) → (y = 0 ∨ y = 1) → (x &&& y = 0 ∨ x &&& y = 1) ∧ (x ||| y = 0 ∨ x ||| y = 1) := by
      rintro x y (rfl | rfl) (rfl | rfl) <;> decide
    rcases k_tests h1 with e | e | e | e | e | e | e | e | e | e
    · rw [evT2 (by rw [e]; rfl), e]; exact zB1_01 _
    · rw [evT2 (by rw [e]; rfl), e]; exact zB1_01 _
    · rw [evT2 (by rw [e]; rfl), e]; exact zB1_01 _
    · rw [evT2 (by rw [e]; rfl), e]; exact zB1_01 _
    · rw [evT2 (by rw [e]; rfl), e]; exact zB1_01 _
    · rw [evT0 (by rw [e]; rfl), e]; exact zB1_01 _
    · rw [evT1 (by rw [e]; rfl), e]; exact zB1_01 _
    · rw [evT1 (by rw [e]; rfl), e]; exact zB1_01 _
    · have g1 := h4 ⟨by omega, by omega⟩
      have g2 := h5 ⟨by omega, by omega, by omega, by omega⟩
      rw [decide_eq_true (show 29 ≤ trQ x by omega)] at g1 g2
      rw [evT2 (by rw [e]; rfl), e]
      exact (c01 _ _ (ih g1) (ih g2)).1
    · have g1 := h4 ⟨by omega, by omega⟩
      have g2 := h5 ⟨by omega, by omega, by omega, by omega⟩
      rw [decide_eq_true (show 29 ≤ trQ x by omega)] at g1 g2
      rw [evT2 (by rw [e]; rfl), e]
      exact (c01 _ _ (ih g1) (ih g2)).2
theorem brB {c A B : Prop} [Decidable c] {K : Int32 → Prop} (k : K (zB1w (decide c))) (hA : K 0 → A) (hB : K 1 → B) : (¬ c → A) ∧ (c → B) := by
  by_cases z : c
  · rw [decide_eq_true z] at k
    exact ⟨fun y => absurd z y, fun _ => hB k⟩
  · rw [decide_eq_false z] at k
    exact ⟨fun _ => hA k, fun y => absurd y z⟩
theorem hz_ofTwo {K : Int32 → Prop} {p k : Nat} {x y : Int32} (hp : gF H p 9 0 (.int (nI k))) (hk : (9 ≤ k ∧ k ≤ 14) ∨ (20 ≤ k ∧ k ≤ 24) ∨ ((k = 30 ∨ k = 31) ∧ (x = 0 ∨ x = 1) ∧ (y = 0 ∨ y = 1))) (kk : K (jnV (cK k) x y)) : wX10_ofTwo Z H p x y K := by
  have nle : ∀ {u v : Int32}, ¬ u ≤ v ↔ v < u := by
    intro u v
    rw [fa_le, fa_lt]
    omega
  unfold wX10_ofTwo
  refine ⟨nI k, hp, ?_⟩
  rcases hk with z | z | ⟨z, hx, hy⟩
  · obtain e | e | e | e | e | e : k = 9 ∨ k = 10 ∨ k = 11 ∨ k = 12 ∨ k = 13 ∨ k = 14 := by omega
    · subst e; exact two_sw9 rfl kk
    · subst e; exact two_sw10 rfl kk
    · subst e; exact two_sw11 rfl kk
    · subst e
      have kk' : K (if y = 0 then 0 else x / y) := kk
      refine two_sw12 rfl ?_
      by_cases z : y = 0
      · rw [if_pos z] at kk'
        exact bn_t z kk'
      · rw [if_neg z] at kk'
        refine bn_f z ?_
        by_cases z1 : y = -1
        · rw [z1, i32_div_m1] at kk'
          exact bn_t z1 kk'
        · exact bn_f z1 ⟨z, kk'⟩
    · subst e
      have kk' : K (g_min x y) := kk
      refine two_sw13 rfl ?_
      unfold g_min at kk'
      by_cases z : y ≤ x
      · refine br_t z ?_
        by_cases z2 : y < x
        · rw [if_pos z2] at kk'; exact kk'
        · rw [if_neg z2] at kk'
          have : x = y := by rw [fa_eq]; rw [fa_le] at z; rw [fa_lt] at z2; omega
          rw [← this]; exact kk'
      · refine br_f z ?_
        rw [if_neg (fun h => z (by rw [fa_le]; rw [fa_lt] at h; omega))] at kk'
        exact kk'
    · subst e
      have kk' : K (g_max x y) := kk
      refine two_sw14 rfl ?_
      unfold g_max at kk'
      by_cases z : y ≤ x
      · refine br_t z ?_
        rw [if_neg (fun h => by rw [fa_lt] at h; rw [fa_le] at z; omega)] at kk'
        exact kk'
      · refine br_f z ?_
        rw [if_pos (nle.mp z)] at kk'
        exact kk'
  · obtain e | e | e | e | e : k = 20 ∨ k = 21 ∨ k = 22 ∨ k = 23 ∨ k = 24 := by omega
    · subst e
      have kk' : K (zB1w (decide (x < y))) := kk
      refine two_sw20 rfl ?_
      by_cases z : y ≤ x
      · rw [decide_eq_false (fun h => by rw [fa_lt] at h; rw [fa_le] at z; omega)] at kk'
        exact br_t z kk'
      · rw [decide_eq_true (nle.mp z)] at kk'
        exact br_f z kk'
    · subst e
      have kk' : K (zB1w (decide (y < x))) := kk
      refine two_sw21 rfl ?_
      by_cases z : x ≤ y
      · rw [decide_eq_false (fun h => by rw [fa_lt] at h; rw [fa_le] at z; omega)] at kk'
        exact br_t z kk'
      · rw [decide_eq_true (nle.mp z)] at kk'
        exact br_f z kk'
    · subst e
      have kk' : K (zB1w (decide (x = y))) := kk
      exact two_sw22 rfl (brB kk' (fun h => h) (fun h => h))
    · subst e
      have kk' : K (zB1w (decide (x ≤ y))) := kk
      exact two_sw23 rfl (brB kk' (fun h => h) (fun h => h)).symm
    · subst e
      have kk' : K (zB1w (decide (y ≤ x))) := kk
      exact two_sw24 rfl (brB kk' (fun h => h) (fun h => h)).symm
  · rcases z with e | e
    · subst e
      have kk' : K (x &&& y) := kk
      refine two_sw30 rfl ?_
      rcases hx with rfl | rfl <;> rcases hy with rfl | rfl
      · exact bn_f (by decide) kk'
      · exact bn_f (by decide) kk'
      · exact bn_f (by decide) kk'
      · exact bn_t (by decide) kk'
    · subst e
      have kk' : K (x ||| y) := kk
      refine two_swD (by decide) (by decide) (by decide) (by decide) (by decide) (by decide) (by decide) (by decide) (by decide) (by decide) (by decide) (by decide) ?_
      rcases hx with rfl | rfl <;> rcases hy with rfl | rfl
      · exact br_t (by decide) kk'
      · exact br_f (by decide) kk'
      · exact br_f (by decide) kk'
      · exact br_f (by decide) kk'
/-- a tree's value by hand -/
theorem hz_of (S : SimAt Z H ad t a pr fa dy ca du sl) (wt : wfT t) (wg : wfG t a pr fa) {N : Nat → Prop} : ∀ (d : Nat) (b : Bool) (p : Nat) (x : Tr d) (K : Int32 → gH → Prop), trA N H d p x → trW (tE t) d b x → K (evT t a pr fa dy sl d x) H → wX10_of Z d H p (ad 0) K := by
  have n8 := wt.1.2
  have n24 := wt.2.2.2.1
  have e6 := wt.2.2.1
  have f2 : ∀ f, fa f ≤ 2 := wg.2.2.2.2.2.2
  have f0 : ∀ f, tF t ≤ f → fa f = 0 := wg.2.2.2.2.2.1
  have p0 : ∀ s, tN t ≤ s → pr s = false := wg.2.2.2.2.1
  have cutF : fb_ct (fun f => decide (1 ≤ fa f)) 24 = fb_ct (fun f => decide (1 ≤ fa f)) (tF t) := ct_cut n24 (fun k hk => decide_eq_false (by rw [f0 k hk]; omega))
  have cutP : fb_ct pr 8 = fb_ct pr (tN t) := ct_cut n8 p0
  intro d
  induction d with
  | zero => intro b p x K h; exact h.elim
  | succ d ih =>
    intro b p x K hA hW hK
    obtain ⟨-, va, vb, hp, hL, hR⟩ := hA
    obtain ⟨w1, wn, w3, w4, w5⟩ := hW
    have g0 : gF H p 9 0 (.int (nI (trQ x))) := gF_of hp rfl
    have g1 : gF H p 9 1 (.int (nI (trN x))) := gF_of hp rfl
    have kid : knA (trQ x) → ∀ (K' : Int32 → gH → Prop), K' (evT t a pr fa dy sl d (trL x)) H → ∃ y : Nat, gF H p 9 2 (.ref y) ∧ ((∃ fs, hpG H y = some (.inr (9, fs))) ∧ wX10_of Z d H y (ad 0) K') := fun hk K' hK' => by
      obtain ⟨q, rfl, hq⟩ := hL hk
      refine ⟨q, gF_of hp rfl, ?_, ih _ q _ K' hq (w4 hk) hK'⟩
      cases d with
      | zero => exact hq.elim
      | succ d' =>
        obtain ⟨-, va', vb', hp', -⟩ := hq
        exact ⟨_, hp'⟩
    have kid2 : knB (trQ x) → ∀ (K' : Int32 → gH → Prop), K' (evT t a pr fa dy sl d (trR x)) H → ∃ y : Nat, gF H p 9 3 (.ref y) ∧ ((∃ fs, hpG H y = some (.inr (9, fs))) ∧ wX10_of Z d H y (ad 0) K') := fun hk K' hK' => by
      obtain ⟨q, rfl, hq⟩ := hR hk
      refine ⟨q, gF_of hp rfl, ?_, ih _ q _ K' hq (w5 hk) hK'⟩
      cases d with
      | zero => exact hq.elim
      | succ d' =>
        obtain ⟨-, va', vb', hp', -⟩ := hq
        exact ⟨_, hp'⟩
    have obj : ∃ fs, hpG H (ad 0) = some (.inr (8, fs)) := ⟨_, S.1⟩
    have en : (nI (trN x)).toNatClampNeg = trN x := nI_clamp (by omega)
    -- the joining kinds
    have join : ((9 ≤ trQ x ∧ trQ x ≤ 14) ∨ (20 ≤ trQ x ∧ trQ x ≤ 24) ∨ (trQ x = 30 ∨ trQ x = 31)) → ∃ y67 : Nat, gF H p 9 2 (.ref y67) ∧ ((∃ fs, hpG H y67 = some (.inr (9, fs))) ∧ wX10_of Z d H y67 (ad 0) (fun r69 H69 => ∃ y70 : Nat, gF H69 p 9 3 (.ref y70) ∧ ((∃ fs, hpG H69 y70 = some (.inr (9, fs))) ∧ wX10_of Z d H69 y70 (ad 0) (fun r72 H72 => (∃ fs, hpG H72 p = some (.inr (9, fs))) ∧ wX10_ofTwo Z H72 p r69 r72 (fun r73 => K r73 H72))))) := fun hj => by
      have kA : knA (trQ x) := ⟨by omega, by omega⟩
      have kB : knB (trQ x) := ⟨by omega, by omega, by omega, by omega⟩
      have a2 : arK (cK (trQ x)) = 2 := by
        have : trQ x = 9 ∨ trQ x = 10 ∨ trQ x = 11 ∨ trQ x = 12 ∨ trQ x = 13 ∨ trQ x = 14 ∨ trQ x = 20 ∨ trQ x = 21 ∨ trQ x = 22 ∨ trQ x = 23 ∨ trQ x = 24 ∨ trQ x = 30 ∨ trQ x = 31 := by omega
        rcases this with e | e | e | e | e | e | e | e | e | e | e | e | e <;> rw [e] <;> rfl
      rw [evT2 a2] at hK
      refine kid kA _ (kid2 kB _ ⟨⟨_, hp⟩, hz_ofTwo g0 ?_ hK⟩)
      rcases hj with z | z | z
      · exact Or.inl z
      · exact Or.inr (Or.inl z)
      · have g4 := w4 kA
        have g5 := w5 kB
        rw [decide_eq_true (show 29 ≤ trQ x by omega)] at g4 g5
        exact Or.inr (Or.inr ⟨z, evT_01 g4, evT_01 g5⟩)
    show wX10_of_E (wX10_of Z d) Z H p (ad 0) K
    unfold wX10_of_E
    refine ⟨nI (trQ x), g0, ?_⟩
    obtain e | e | e | e | e | e | e | e | e | e | e | e | hj : trQ x = 0 ∨ trQ x = 1 ∨ trQ x = 2 ∨ trQ x = 3 ∨ trQ x = 4 ∨ trQ x = 5 ∨ trQ x = 6 ∨ trQ x = 7 ∨ trQ x = 8 ∨ trQ x = 25 ∨ trQ x = 26 ∨ trQ x = 29 ∨ ((9 ≤ trQ x ∧ trQ x ≤ 14) ∨ (20 ≤ trQ x ∧ trQ x ≤ 24) ∨ (trQ x = 30 ∨ trQ x = 31)) := by
      cases b
      · rw [if_neg (by decide)] at w1
        omega
      · rw [if_pos rfl] at w1
        omega
    · rw [evT0 (by rw [e]; rfl), e] at hK
      exact of_sw0 (by rw [e]; rfl) ⟨_, g1, hK⟩
    · rw [evT0 (by rw [e]; rfl), e] at hK
      exact of_sw1 (by rw [e]; rfl) ⟨dy, gF_of S.1 rfl, hK⟩
    · rw [evT0 (by rw [e]; rfl), e] at hK
      have hK' : K (nI (fb_ct (fun f => decide (1 ≤ fa f)) 24)) H := hK
      rw [cutF] at hK'
      exact of_sw2 (by rw [e]; rfl) ⟨obj, sm_found (l := 1) S n24 f2 (by decide) hK'⟩
    · rw [evT0 (by rw [e]; rfl), e] at hK
      exact of_sw3 (by rw [e]; rfl) ⟨sl, gF_of S.1 rfl, hK⟩
    · rw [evT0 (by rw [e]; rfl), e] at hK
      have hK' : K (nI (fb_ct pr 8)) H := hK
      rw [cutP] at hK'
      exact of_sw4 (by rw [e]; rfl) ⟨obj, sm_props S n8 hK'⟩
    · have hn := w3 (by omega)
      obtain ⟨g, k1, k2⟩ := S.2.2.2.2.2.2.1
      obtain ⟨r, r1, r2, r3⟩ := S.2.2.2.2.2.2.2.1 _ hn
      rw [evT0 (by rw [e]; rfl), e] at hK
      have hK' : K (tFr t (nI (trN x)).toNatClampNeg) H := hK
      rw [en] at hK'
      refine of_sw5 (by rw [e]; rfl) ⟨_, gF_of S.1 rfl, _, g1, _, g, _, k1, vp_in_nI hn (by omega), by rw [en]; exact k2 _ hn, 2, r, r1, by unfold vp_in; decide, ?_⟩
      rw [show (0 : Int32).toNatClampNeg = 0 from rfl, r2]
      exact hK'
    · have hn := w3 (by omega)
      obtain ⟨g, k1, k2⟩ := S.2.2.2.2.2.2.1
      obtain ⟨r, r1, r2, r3⟩ := S.2.2.2.2.2.2.2.1 _ hn
      rw [evT0 (by rw [e]; rfl), e] at hK
      have hK' : K (tTo t (nI (trN x)).toNatClampNeg) H := hK
      rw [en] at hK'
      refine of_sw6 (by rw [e]; rfl) ⟨_, gF_of S.1 rfl, _, g1, _, g, _, k1, vp_in_nI hn (by omega), by rw [en]; exact k2 _ hn, 2, r, r1, by unfold vp_in; decide, ?_⟩
      rw [show (1 : Int32).toNatClampNeg = 1 from rfl, r3]
      exact hK'
    · rw [evT1 (by rw [e]; rfl), e] at hK
      obtain ⟨f, h1, hf⟩ := S.2.1
      obtain ⟨s, hs, es⟩ := fm_in (evT t a pr fa dy sl d (trL x)) (show 0 < tN t by have := wt.1.1; omega) n8
      obtain ⟨r, r1, -⟩ := S.2.2.1 s hs
      have hK' : K (nI (a.2.1 (fmV (evT t a pr fa dy sl d (trL x)) (nI (tN t))).toNatClampNeg)) H := hK
      rw [es, nI_clamp (by omega)] at hK'
      refine of_sw7 (by rw [e]; rfl) ⟨_, gF_of S.1 rfl, kid ⟨by omega, by omega⟩ _ ⟨obj, sm_seat S wt _ ?_⟩⟩
      rw [es]
      exact ⟨_, f, _, h1, vp_in_nI hs (by omega), by rw [nI_clamp (by omega)]; exact hf s hs, _, r, r1, hK'⟩
    · rw [evT1 (by rw [e]; rfl), e] at hK
      exact of_sw8 (by rw [e]; rfl) (kid ⟨by omega, by omega⟩ _ hK)
    · have hn := w3 (by omega)
      rw [evT0 (by rw [e]; rfl), e] at hK
      have hK' : K (zB1w (anyB (snP0 t fa (nI (trN x)).toNatClampNeg) (tF t))) H := hK
      rw [en] at hK'
      refine of_sw25 (by rw [e]; rfl) ⟨_, g1, obj, sm_isSeen S n24 f2 ?_⟩
      cases eb : anyB (snP0 t fa (trN x)) (tF t)
      · rw [eb] at hK'
        exact br_t rfl hK'
      · rw [eb] at hK'
        exact br_f (by decide) hK'
    · rw [evT1 (by rw [e]; rfl), e] at hK
      have hK' : K (zB1w (suB fa (evT t a pr fa dy sl d (trL x)))) H := hK
      refine of_sw26 (by rw [e]; rfl) (kid ⟨by omega, by omega⟩ _ ⟨obj, sm_isSure S n24 f2 f0 _ ?_⟩)
      cases eb : suB fa (evT t a pr fa dy sl d (trL x))
      · rw [eb] at hK'
        exact br_t rfl hK'
      · rw [eb] at hK'
        exact br_f (by decide) hK'
    · have g4 := w4 ⟨by omega, by omega⟩
      rw [decide_eq_true (show 29 ≤ trQ x by omega)] at g4
      rw [evT1 (by rw [e]; rfl), e] at hK
      refine of_sw29 (by rw [e]; rfl) (kid ⟨by omega, by omega⟩ _ ?_)
      have hK' : K (zB1w (decide (evT t a pr fa dy sl d (trL x) = 0))) H := hK
      rcases evT_01 (a := a) (pr := pr) (fa := fa) (dy := dy) (sl := sl) g4 with z | z
      · rw [z] at hK' ⊢
        exact hK'
      · rw [z] at hK' ⊢
        exact hK'
    · have nk : ∀ j : Nat, j < 100 → trQ x ≠ j → ¬ nI (trQ x) = nI j := fun j hj hn h => hn ((nI_eq (by omega) (by omega)).mp h)
      exact of_swD (nk 0 (by decide) (by omega)) (nk 1 (by decide) (by omega)) (nk 2 (by decide) (by omega)) (nk 3 (by decide) (by omega)) (nk 4 (by decide) (by omega)) (nk 5 (by decide) (by omega)) (nk 6 (by decide) (by omega)) (nk 7 (by decide) (by omega)) (nk 8 (by decide) (by omega)) (nk 25 (by decide) (by omega)) (nk 26 (by decide) (by omega)) (nk 29 (by decide) (by omega)) (join hj)
end EVAL
