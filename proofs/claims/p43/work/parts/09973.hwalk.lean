abbrev rmX10_text (d bc bs : Nat) : Room := { frames := 7 * (d + 1), cells := bc, slots := bs, locals := 172 * (d + 1) }
def wX10_text_617 (rec : gH → Nat → Nat → Nat → (Nat → gH → Prop) → Prop) (K : Nat → gH → Prop) (Z : gZ) (H : gH) (bc : Nat) (bs : Nat) (x0 : Nat) (z0 : Nat) (z1 : Nat) : Prop :=
  (∃ fs, hpG H z1 = some (.inr (11, fs))) ∧ ∃ (c1 s1 : Nat), c1 ≤ bc ∧ s1 ≤ bs ∧ whJ4_append_15ec4 Z H c1 s1 z1 z0 (fun r1 H1 => (∃ fs, hpG H1 r1 = some (.inr (11, fs))) ∧ ∃ (c2 s2 : Nat), c2 ≤ (bc - c1) ∧ s2 ≤ (bs - s1) ∧ whJ4_append_15ec4 Z H1 c2 s2 r1 (Z.1 30) (fun r2 H2 => ∃ y3 : Nat, gF H2 x0 9 3 (.ref y3) ∧ ((∃ fs, hpG H2 y3 = some (.inr (9, fs))) ∧ ∃ (c5 s5 : Nat), c5 ≤ ((bc - c1) - c2) ∧ s5 ≤ ((bs - s1) - s2) ∧ rec H2 c5 s5 y3 (fun r5 H5 => (∃ fs, hpG H5 r2 = some (.inr (11, fs))) ∧ ∃ (c6 s6 : Nat), c6 ≤ (((bc - c1) - c2) - c5) ∧ s6 ≤ (((bs - s1) - s2) - s5) ∧ whJ4_append_15ec4 Z H5 c6 s6 r2 r5 (fun r6 H6 => (∃ fs, hpG H6 r6 = some (.inr (11, fs))) ∧ ∃ (c7 s7 : Nat), c7 ≤ ((((bc - c1) - c2) - c5) - c6) ∧ s7 ≤ ((((bs - s1) - s2) - s5) - s6) ∧ whJ4_append_15ec4 Z H6 c7 s7 r6 (Z.1 29) (fun r7 H7 => (∃ fs, hpG H7 r7 = some (.inr (11, fs))) ∧ ∃ (c8 s8 : Nat), c8 ≤ (((((bc - c1) - c2) - c5) - c6) - c7) ∧ s8 ≤ (((((bs - s1) - s2) - s5) - s6) - s7) ∧ whJ4_toString_0e30d Z H7 c8 s8 r7 (fun r8 H8 => K r8 H8)))))))
def wX10_text_108 (rec : gH → Nat → Nat → Nat → (Nat → gH → Prop) → Prop) (K : Nat → gH → Prop) (Z : gZ) (H : gH) (bc : Nat) (bs : Nat) (x0 : Nat) (x1 : Nat) (x2 : Nat) (x3 : Nat) : Prop :=
  ∃ y1 : Int32, gF H x0 9 0 (.int y1) ∧ (((¬ y1 = 0 → ∃ y3 : Int32, gF H x0 9 0 (.int y3) ∧ (((5 ≤ y3 → ∃ y5 : Int32, gF H x0 9 0 (.int y5) ∧ (((7 ≤ y5 → ∃ y7 : Int32, gF H x0 9 0 (.int y7) ∧ (((¬ y7 = 7 → ∃ y9 : Int32, gF H x0 9 0 (.int y9) ∧ (((¬ y9 = 8 → ∃ y11 : Int32, gF H x0 9 0 (.int y11) ∧ (((13 ≤ y11 → ∃ y13 : Int32, gF H x0 9 0 (.int y13) ∧ (((15 ≤ y13 → ∃ y15 : Int32, gF H x0 9 0 (.int y15) ∧ (((25 ≤ y15 → ∃ y17 : Int32, gF H x0 9 0 (.int y17) ∧ (((¬ y17 = 25 → ∃ y19 : Int32, gF H x0 9 0 (.int y19) ∧ (((¬ y19 = 26 → ∃ y21 : Int32, gF H x0 9 0 (.int y21) ∧ (((¬ y21 = 29 → 1 ≤ bc ∧ 4 ≤ bs ∧ (∀ q23 : Nat, hpG H q23 = none → (∃ (c25 s25 : Nat), c25 ≤ (bc - 1) ∧ s25 ≤ (bs - 4) ∧ whJ4_init_da8c8 Z (hpN H q23 (.inr (11, [.null, .int 0, .int 0, .int 0]))) c25 s25 q23 (fun H25 => (∃ fs, hpG H25 q23 = some (.inr (11, fs))) ∧ ∃ (c26 s26 : Nat), c26 ≤ ((bc - 1) - c25) ∧ s26 ≤ ((bs - 4) - s25) ∧ whJ4_append_15ec4 Z H25 c26 s26 q23 (Z.1 30) (fun r26 H26 => ∃ y27 : Nat, gF H26 x0 9 2 (.ref y27) ∧ ((∃ fs, hpG H26 y27 = some (.inr (9, fs))) ∧ ∃ (c29 s29 : Nat), c29 ≤ (((bc - 1) - c25) - c26) ∧ s29 ≤ (((bs - 4) - s25) - s26) ∧ rec H26 c29 s29 y27 (fun r29 H29 => (∃ fs, hpG H29 r26 = some (.inr (11, fs))) ∧ ∃ (c30 s30 : Nat), c30 ≤ ((((bc - 1) - c25) - c26) - c29) ∧ s30 ≤ ((((bs - 4) - s25) - s26) - s29) ∧ whJ4_append_15ec4 Z H29 c30 s30 r26 r29 (fun r30 H30 => (∃ fs, hpG H30 r30 = some (.inr (11, fs))) ∧ ∃ (c31 s31 : Nat), c31 ≤ (((((bc - 1) - c25) - c26) - c29) - c30) ∧ s31 ≤ (((((bs - 4) - s25) - s26) - s29) - s30) ∧ whJ4_append_15ec4 Z H30 c31 s31 r30 (Z.1 29) (fun r31 H31 => ∃ y32 : Int32, gF H31 x0 9 0 (.int y32) ∧ (((¬ y32 = 30 → wX10_text_617 rec K Z H31 ((((((bc - 1) - c25) - c26) - c29) - c30) - c31) ((((((bs - 4) - s25) - s26) - s29) - s30) - s31) x0 (Z.1 32) r31) ∧ (y32 = 30 → wX10_text_617 rec K Z H31 ((((((bc - 1) - c25) - c26) - c29) - c30) - c31) ((((((bs - 4) - s25) - s26) - s29) - s30) - s31) x0 (Z.1 31) r31)))))))))))) ∧ (y21 = 29 → 1 ≤ bc ∧ 4 ≤ bs ∧ (∀ q34 : Nat, hpG H q34 = none → (∃ (c36 s36 : Nat), c36 ≤ (bc - 1) ∧ s36 ≤ (bs - 4) ∧ whJ4_init_da8c8 Z (hpN H q34 (.inr (11, [.null, .int 0, .int 0, .int 0]))) c36 s36 q34 (fun H36 => (∃ fs, hpG H36 q34 = some (.inr (11, fs))) ∧ ∃ (c37 s37 : Nat), c37 ≤ ((bc - 1) - c36) ∧ s37 ≤ ((bs - 4) - s36) ∧ whJ4_append_15ec4 Z H36 c37 s37 q34 (Z.1 28) (fun r37 H37 => ∃ y38 : Nat, gF H37 x0 9 2 (.ref y38) ∧ ((∃ fs, hpG H37 y38 = some (.inr (9, fs))) ∧ ∃ (c40 s40 : Nat), c40 ≤ (((bc - 1) - c36) - c37) ∧ s40 ≤ (((bs - 4) - s36) - s37) ∧ rec H37 c40 s40 y38 (fun r40 H40 => (∃ fs, hpG H40 r37 = some (.inr (11, fs))) ∧ ∃ (c41 s41 : Nat), c41 ≤ ((((bc - 1) - c36) - c37) - c40) ∧ s41 ≤ ((((bs - 4) - s36) - s37) - s40) ∧ whJ4_append_15ec4 Z H40 c41 s41 r37 r40 (fun r41 H41 => (∃ fs, hpG H41 r41 = some (.inr (11, fs))) ∧ ∃ (c42 s42 : Nat), c42 ≤ (((((bc - 1) - c36) - c37) - c40) - c41) ∧ s42 ≤ (((((bs - 4) - s36) - s37) - s40) - s41) ∧ whJ4_append_15ec4 Z H41 c42 s42 r41 (Z.1 29) (fun r42 H42 => (∃ fs, hpG H42 r42 = some (.inr (11, fs))) ∧ ∃ (c43 s43 : Nat), c43 ≤ ((((((bc - 1) - c36) - c37) - c40) - c41) - c42) ∧ s43 ≤ ((((((bs - 4) - s36) - s37) - s40) - s41) - s42) ∧ whJ4_toString_0e30d Z H42 c43 s43 r42 (fun r43 H43 => K r43 H43))))))))))))) ∧ (y19 = 26 → 1 ≤ bc ∧ 4 ≤ bs ∧ (∀ q44 : Nat, hpG H q44 = none → (∃ (c46 s46 : Nat), c46 ≤ (bc - 1) ∧ s46 ≤ (bs - 4) ∧ whJ4_init_da8c8 Z (hpN H q44 (.inr (11, [.null, .int 0, .int 0, .int 0]))) c46 s46 q44 (fun H46 => (∃ fs, hpG H46 q44 = some (.inr (11, fs))) ∧ ∃ (c47 s47 : Nat), c47 ≤ ((bc - 1) - c46) ∧ s47 ≤ ((bs - 4) - s46) ∧ whJ4_append_15ec4 Z H46 c47 s47 q44 (Z.1 27) (fun r47 H47 => ∃ y48 : Nat, gF H47 x0 9 2 (.ref y48) ∧ ((∃ fs, hpG H47 y48 = some (.inr (9, fs))) ∧ ∃ (c50 s50 : Nat), c50 ≤ (((bc - 1) - c46) - c47) ∧ s50 ≤ (((bs - 4) - s46) - s47) ∧ rec H47 c50 s50 y48 (fun r50 H50 => (∃ fs, hpG H50 r47 = some (.inr (11, fs))) ∧ ∃ (c51 s51 : Nat), c51 ≤ ((((bc - 1) - c46) - c47) - c50) ∧ s51 ≤ ((((bs - 4) - s46) - s47) - s50) ∧ whJ4_append_15ec4 Z H50 c51 s51 r47 r50 (fun r51 H51 => (∃ fs, hpG H51 r51 = some (.inr (11, fs))) ∧ ∃ (c52 s52 : Nat), c52 ≤ (((((bc - 1) - c46) - c47) - c50) - c51) ∧ s52 ≤ (((((bs - 4) - s46) - s47) - s50) - s51) ∧ whJ4_toString_0e30d Z H51 c52 s52 r51 (fun r52 H52 => K r52 H52)))))))))))) ∧ (y17 = 25 → 1 ≤ bc ∧ 4 ≤ bs ∧ (∀ q53 : Nat, hpG H q53 = none → (∃ (c55 s55 : Nat), c55 ≤ (bc - 1) ∧ s55 ≤ (bs - 4) ∧ whJ4_init_da8c8 Z (hpN H q53 (.inr (11, [.null, .int 0, .int 0, .int 0]))) c55 s55 q53 (fun H55 => (∃ fs, hpG H55 q53 = some (.inr (11, fs))) ∧ ∃ (c56 s56 : Nat), c56 ≤ ((bc - 1) - c55) ∧ s56 ≤ ((bs - 4) - s55) ∧ whJ4_append_15ec4 Z H55 c56 s56 q53 (Z.1 26) (fun r56 H56 => ∃ y57 : Int32, gF H56 x0 9 1 (.int y57) ∧ ((∃ fs, hpG H56 r56 = some (.inr (11, fs))) ∧ ∃ (c59 s59 : Nat), c59 ≤ (((bc - 1) - c55) - c56) ∧ s59 ≤ (((bs - 4) - s55) - s56) ∧ whJ4_append_bf812 Z H56 c59 s59 r56 y57 (fun r59 H59 => (∃ fs, hpG H59 r59 = some (.inr (11, fs))) ∧ ∃ (c60 s60 : Nat), c60 ≤ ((((bc - 1) - c55) - c56) - c59) ∧ s60 ≤ ((((bs - 4) - s55) - s56) - s59) ∧ whJ4_append_15ec4 Z H59 c60 s60 r59 (Z.1 20) (fun r60 H60 => (∃ fs, hpG H60 r60 = some (.inr (11, fs))) ∧ ∃ (c61 s61 : Nat), c61 ≤ (((((bc - 1) - c55) - c56) - c59) - c60) ∧ s61 ≤ (((((bs - 4) - s55) - s56) - s59) - s60) ∧ whJ4_toString_0e30d Z H60 c61 s61 r60 (fun r61 H61 => K r61 H61)))))))))))) ∧ (¬ 25 ≤ y15 → 1 ≤ bc ∧ 4 ≤ bs ∧ (∀ q62 : Nat, hpG H q62 = none → (∃ (c64 s64 : Nat), c64 ≤ (bc - 1) ∧ s64 ≤ (bs - 4) ∧ whJ4_init_da8c8 Z (hpN H q62 (.inr (11, [.null, .int 0, .int 0, .int 0]))) c64 s64 q62 (fun H64 => ∃ y65 : Nat, gF H64 x0 9 2 (.ref y65) ∧ ((∃ fs, hpG H64 y65 = some (.inr (9, fs))) ∧ ∃ (c67 s67 : Nat), c67 ≤ ((bc - 1) - c64) ∧ s67 ≤ ((bs - 4) - s64) ∧ rec H64 c67 s67 y65 (fun r67 H67 => (∃ fs, hpG H67 q62 = some (.inr (11, fs))) ∧ ∃ (c68 s68 : Nat), c68 ≤ (((bc - 1) - c64) - c67) ∧ s68 ≤ (((bs - 4) - s64) - s67) ∧ whJ4_append_15ec4 Z H67 c68 s68 q62 r67 (fun r68 H68 => ∃ y69 : Int32, gF H68 x0 9 0 (.int y69) ∧ (∃ (n71 : Nat) (f72 : Nat → Option Nat) (y75 : Nat), hpG H68 x3 = some (qE (zY Z 7) n71 f72) ∧ vp_in (y69 - 20) n71 ∧ f72 (y69 - 20).toNatClampNeg = some y75 ∧ ((∃ fs, hpG H68 r68 = some (.inr (11, fs))) ∧ ∃ (c77 s77 : Nat), c77 ≤ ((((bc - 1) - c64) - c67) - c68) ∧ s77 ≤ ((((bs - 4) - s64) - s67) - s68) ∧ whJ4_append_15ec4 Z H68 c77 s77 r68 y75 (fun r77 H77 => ∃ y78 : Nat, gF H77 x0 9 3 (.ref y78) ∧ ((∃ fs, hpG H77 y78 = some (.inr (9, fs))) ∧ ∃ (c80 s80 : Nat), c80 ≤ (((((bc - 1) - c64) - c67) - c68) - c77) ∧ s80 ≤ (((((bs - 4) - s64) - s67) - s68) - s77) ∧ rec H77 c80 s80 y78 (fun r80 H80 => (∃ fs, hpG H80 r77 = some (.inr (11, fs))) ∧ ∃ (c81 s81 : Nat), c81 ≤ ((((((bc - 1) - c64) - c67) - c68) - c77) - c80) ∧ s81 ≤ ((((((bs - 4) - s64) - s67) - s68) - s77) - s80) ∧ whJ4_append_15ec4 Z H80 c81 s81 r77 r80 (fun r81 H81 => (∃ fs, hpG H81 r81 = some (.inr (11, fs))) ∧ ∃ (c82 s82 : Nat), c82 ≤ (((((((bc - 1) - c64) - c67) - c68) - c77) - c80) - c81) ∧ s82 ≤ (((((((bs - 4) - s64) - s67) - s68) - s77) - s80) - s81) ∧ whJ4_toString_0e30d Z H81 c82 s82 r81 (fun r82 H82 => K r82 H82))))))))))))))))) ∧ (¬ 15 ≤ y13 → 1 ≤ bc ∧ 4 ≤ bs ∧ (∀ q83 : Nat, hpG H q83 = none → (∃ (c85 s85 : Nat), c85 ≤ (bc - 1) ∧ s85 ≤ (bs - 4) ∧ whJ4_init_da8c8 Z (hpN H q83 (.inr (11, [.null, .int 0, .int 0, .int 0]))) c85 s85 q83 (fun H85 => ∃ y86 : Int32, gF H85 x0 9 0 (.int y86) ∧ (∃ (n88 : Nat) (f89 : Nat → Option Nat) (y92 : Nat), hpG H85 x2 = some (qE (zY Z 7) n88 f89) ∧ vp_in (y86 - 9) n88 ∧ f89 (y86 - 9).toNatClampNeg = some y92 ∧ ((∃ fs, hpG H85 q83 = some (.inr (11, fs))) ∧ ∃ (c94 s94 : Nat), c94 ≤ ((bc - 1) - c85) ∧ s94 ≤ ((bs - 4) - s85) ∧ whJ4_append_15ec4 Z H85 c94 s94 q83 y92 (fun r94 H94 => ∃ y95 : Nat, gF H94 x0 9 2 (.ref y95) ∧ ((∃ fs, hpG H94 y95 = some (.inr (9, fs))) ∧ ∃ (c97 s97 : Nat), c97 ≤ (((bc - 1) - c85) - c94) ∧ s97 ≤ (((bs - 4) - s85) - s94) ∧ rec H94 c97 s97 y95 (fun r97 H97 => (∃ fs, hpG H97 r94 = some (.inr (11, fs))) ∧ ∃ (c98 s98 : Nat), c98 ≤ ((((bc - 1) - c85) - c94) - c97) ∧ s98 ≤ ((((bs - 4) - s85) - s94) - s97) ∧ whJ4_append_15ec4 Z H97 c98 s98 r94 r97 (fun r98 H98 => (∃ fs, hpG H98 r98 = some (.inr (11, fs))) ∧ ∃ (c99 s99 : Nat), c99 ≤ (((((bc - 1) - c85) - c94) - c97) - c98) ∧ s99 ≤ (((((bs - 4) - s85) - s94) - s97) - s98) ∧ whJ4_append_15ec4 Z H98 c99 s99 r98 (Z.1 25) (fun r99 H99 => ∃ y100 : Nat, gF H99 x0 9 3 (.ref y100) ∧ ((∃ fs, hpG H99 y100 = some (.inr (9, fs))) ∧ ∃ (c102 s102 : Nat), c102 ≤ ((((((bc - 1) - c85) - c94) - c97) - c98) - c99) ∧ s102 ≤ ((((((bs - 4) - s85) - s94) - s97) - s98) - s99) ∧ rec H99 c102 s102 y100 (fun r102 H102 => (∃ fs, hpG H102 r99 = some (.inr (11, fs))) ∧ ∃ (c103 s103 : Nat), c103 ≤ (((((((bc - 1) - c85) - c94) - c97) - c98) - c99) - c102) ∧ s103 ≤ (((((((bs - 4) - s85) - s94) - s97) - s98) - s99) - s102) ∧ whJ4_append_15ec4 Z H102 c103 s103 r99 r102 (fun r103 H103 => (∃ fs, hpG H103 r103 = some (.inr (11, fs))) ∧ ∃ (c104 s104 : Nat), c104 ≤ ((((((((bc - 1) - c85) - c94) - c97) - c98) - c99) - c102) - c103) ∧ s104 ≤ ((((((((bs - 4) - s85) - s94) - s97) - s98) - s99) - s102) - s103) ∧ whJ4_append_15ec4 Z H103 c104 s104 r103 (Z.1 22) (fun r104 H104 => (∃ fs, hpG H104 r104 = some (.inr (11, fs))) ∧ ∃ (c105 s105 : Nat), c105 ≤ (((((((((bc - 1) - c85) - c94) - c97) - c98) - c99) - c102) - c103) - c104) ∧ s105 ≤ (((((((((bs - 4) - s85) - s94) - s97) - s98) - s99) - s102) - s103) - s104) ∧ whJ4_toString_0e30d Z H104 c105 s105 r104 (fun r105 H105 => K r105 H105))))))))))))))))))) ∧ (¬ 13 ≤ y11 → 1 ≤ bc ∧ 4 ≤ bs ∧ (∀ q106 : Nat, hpG H q106 = none → (∃ (c108 s108 : Nat), c108 ≤ (bc - 1) ∧ s108 ≤ (bs - 4) ∧ whJ4_init_da8c8 Z (hpN H q106 (.inr (11, [.null, .int 0, .int 0, .int 0]))) c108 s108 q106 (fun H108 => (∃ fs, hpG H108 q106 = some (.inr (11, fs))) ∧ ∃ (c109 s109 : Nat), c109 ≤ ((bc - 1) - c108) ∧ s109 ≤ ((bs - 4) - s108) ∧ whJ4_append_15ec4 Z H108 c109 s109 q106 (Z.1 24) (fun r109 H109 => ∃ y110 : Nat, gF H109 x0 9 2 (.ref y110) ∧ ((∃ fs, hpG H109 y110 = some (.inr (9, fs))) ∧ ∃ (c112 s112 : Nat), c112 ≤ (((bc - 1) - c108) - c109) ∧ s112 ≤ (((bs - 4) - s108) - s109) ∧ rec H109 c112 s112 y110 (fun r112 H112 => (∃ fs, hpG H112 r109 = some (.inr (11, fs))) ∧ ∃ (c113 s113 : Nat), c113 ≤ ((((bc - 1) - c108) - c109) - c112) ∧ s113 ≤ ((((bs - 4) - s108) - s109) - s112) ∧ whJ4_append_15ec4 Z H112 c113 s113 r109 r112 (fun r113 H113 => (∃ fs, hpG H113 r113 = some (.inr (11, fs))) ∧ ∃ (c114 s114 : Nat), c114 ≤ (((((bc - 1) - c108) - c109) - c112) - c113) ∧ s114 ≤ (((((bs - 4) - s108) - s109) - s112) - s113) ∧ whJ4_append_15ec4 Z H113 c114 s114 r113 (Z.1 22) (fun r114 H114 => ∃ y115 : Int32, gF H114 x0 9 0 (.int y115) ∧ (∃ (n117 : Nat) (f118 : Nat → Option Nat) (y121 : Nat), hpG H114 x2 = some (qE (zY Z 7) n117 f118) ∧ vp_in (y115 - 9) n117 ∧ f118 (y115 - 9).toNatClampNeg = some y121 ∧ ((∃ fs, hpG H114 r114 = some (.inr (11, fs))) ∧ ∃ (c123 s123 : Nat), c123 ≤ ((((((bc - 1) - c108) - c109) - c112) - c113) - c114) ∧ s123 ≤ ((((((bs - 4) - s108) - s109) - s112) - s113) - s114) ∧ whJ4_append_15ec4 Z H114 c123 s123 r114 y121 (fun r123 H123 => (∃ fs, hpG H123 r123 = some (.inr (11, fs))) ∧ ∃ (c124 s124 : Nat), c124 ≤ (((((((bc - 1) - c108) - c109) - c112) - c113) - c114) - c123) ∧ s124 ≤ (((((((bs - 4) - s108) - s109) - s112) - s113) - s114) - s123) ∧ whJ4_append_15ec4 Z H123 c124 s124 r123 (Z.1 24) (fun r124 H124 => ∃ y125 : Nat, gF H124 x0 9 3 (.ref y125) ∧ ((∃ fs, hpG H124 y125 = some (.inr (9, fs))) ∧ ∃ (c127 s127 : Nat), c127 ≤ ((((((((bc - 1) - c108) - c109) - c112) - c113) - c114) - c123) - c124) ∧ s127 ≤ ((((((((bs - 4) - s108) - s109) - s112) - s113) - s114) - s123) - s124) ∧ rec H124 c127 s127 y125 (fun r127 H127 => (∃ fs, hpG H127 r124 = some (.inr (11, fs))) ∧ ∃ (c128 s128 : Nat), c128 ≤ (((((((((bc - 1) - c108) - c109) - c112) - c113) - c114) - c123) - c124) - c127) ∧ s128 ≤ (((((((((bs - 4) - s108) - s109) - s112) - s113) - s114) - s123) - s124) - s127) ∧ whJ4_append_15ec4 Z H127 c128 s128 r124 r127 (fun r128 H128 => (∃ fs, hpG H128 r128 = some (.inr (11, fs))) ∧ ∃ (c129 s129 : Nat), c129 ≤ ((((((((((bc - 1) - c108) - c109) - c112) - c113) - c114) - c123) - c124) - c127) - c128) ∧ s129 ≤ ((((((((((bs - 4) - s108) - s109) - s112) - s113) - s114) - s123) - s124) - s127) - s128) ∧ whJ4_append_15ec4 Z H128 c129 s129 r128 (Z.1 22) (fun r129 H129 => (∃ fs, hpG H129 r129 = some (.inr (11, fs))) ∧ ∃ (c130 s130 : Nat), c130 ≤ (((((((((((bc - 1) - c108) - c109) - c112) - c113) - c114) - c123) - c124) - c127) - c128) - c129) ∧ s130 ≤ (((((((((((bs - 4) - s108) - s109) - s112) - s113) - s114) - s123) - s124) - s127) - s128) - s129) ∧ whJ4_toString_0e30d Z H129 c130 s130 r129 (fun r130 H130 => K r130 H130))))))))))))))))))))) ∧ (y9 = 8 → 1 ≤ bc ∧ 4 ≤ bs ∧ (∀ q131 : Nat, hpG H q131 = none → (∃ (c133 s133 : Nat), c133 ≤ (bc - 1) ∧ s133 ≤ (bs - 4) ∧ whJ4_init_da8c8 Z (hpN H q131 (.inr (11, [.null, .int 0, .int 0, .int 0]))) c133 s133 q131 (fun H133 => (∃ fs, hpG H133 q131 = some (.inr (11, fs))) ∧ ∃ (c134 s134 : Nat), c134 ≤ ((bc - 1) - c133) ∧ s134 ≤ ((bs - 4) - s133) ∧ whJ4_append_15ec4 Z H133 c134 s134 q131 (Z.1 23) (fun r134 H134 => ∃ y135 : Nat, gF H134 x0 9 2 (.ref y135) ∧ ((∃ fs, hpG H134 y135 = some (.inr (9, fs))) ∧ ∃ (c137 s137 : Nat), c137 ≤ (((bc - 1) - c133) - c134) ∧ s137 ≤ (((bs - 4) - s133) - s134) ∧ rec H134 c137 s137 y135 (fun r137 H137 => (∃ fs, hpG H137 r134 = some (.inr (11, fs))) ∧ ∃ (c138 s138 : Nat), c138 ≤ ((((bc - 1) - c133) - c134) - c137) ∧ s138 ≤ ((((bs - 4) - s133) - s134) - s137) ∧ whJ4_append_15ec4 Z H137 c138 s138 r134 r137 (fun r138 H138 => (∃ fs, hpG H138 r138 = some (.inr (11, fs))) ∧ ∃ (c139 s139 : Nat), c139 ≤ (((((bc - 1) - c133) - c134) - c137) - c138) ∧ s139 ≤ (((((bs - 4) - s133) - s134) - s137) - s138) ∧ whJ4_append_15ec4 Z H138 c139 s139 r138 (Z.1 22) (fun r139 H139 => (∃ fs, hpG H139 r139 = some (.inr (11, fs))) ∧ ∃ (c140 s140 : Nat), c140 ≤ ((((((bc - 1) - c133) - c134) - c137) - c138) - c139) ∧ s140 ≤ ((((((bs - 4) - s133) - s134) - s137) - s138) - s139) ∧ whJ4_toString_0e30d Z H139 c140 s140 r139 (fun r140 H140 => K r140 H140))))))))))))) ∧ (y7 = 7 → 1 ≤ bc ∧ 4 ≤ bs ∧ (∀ q141 : Nat, hpG H q141 = none → (∃ (c143 s143 : Nat), c143 ≤ (bc - 1) ∧ s143 ≤ (bs - 4) ∧ whJ4_init_da8c8 Z (hpN H q141 (.inr (11, [.null, .int 0, .int 0, .int 0]))) c143 s143 q141 (fun H143 => (∃ fs, hpG H143 q141 = some (.inr (11, fs))) ∧ ∃ (c144 s144 : Nat), c144 ≤ ((bc - 1) - c143) ∧ s144 ≤ ((bs - 4) - s143) ∧ whJ4_append_15ec4 Z H143 c144 s144 q141 (Z.1 21) (fun r144 H144 => ∃ y145 : Nat, gF H144 x0 9 2 (.ref y145) ∧ ((∃ fs, hpG H144 y145 = some (.inr (9, fs))) ∧ ∃ (c147 s147 : Nat), c147 ≤ (((bc - 1) - c143) - c144) ∧ s147 ≤ (((bs - 4) - s143) - s144) ∧ rec H144 c147 s147 y145 (fun r147 H147 => (∃ fs, hpG H147 r144 = some (.inr (11, fs))) ∧ ∃ (c148 s148 : Nat), c148 ≤ ((((bc - 1) - c143) - c144) - c147) ∧ s148 ≤ ((((bs - 4) - s143) - s144) - s147) ∧ whJ4_append_15ec4 Z H147 c148 s148 r144 r147 (fun r148 H148 => (∃ fs, hpG H148 r148 = some (.inr (11, fs))) ∧ ∃ (c149 s149 : Nat), c149 ≤ (((((bc - 1) - c143) - c144) - c147) - c148) ∧ s149 ≤ (((((bs - 4) - s143) - s144) - s147) - s148) ∧ whJ4_append_15ec4 Z H148 c149 s149 r148 (Z.1 22) (fun r149 H149 => (∃ fs, hpG H149 r149 = some (.inr (11, fs))) ∧ ∃ (c150 s150 : Nat), c150 ≤ ((((((bc - 1) - c143) - c144) - c147) - c148) - c149) ∧ s150 ≤ ((((((bs - 4) - s143) - s144) - s147) - s148) - s149) ∧ whJ4_toString_0e30d Z H149 c150 s150 r149 (fun r150 H150 => K r150 H150))))))))))))) ∧ (¬ 7 ≤ y5 → 1 ≤ bc ∧ 4 ≤ bs ∧ (∀ q151 : Nat, hpG H q151 = none → (∃ (c153 s153 : Nat), c153 ≤ (bc - 1) ∧ s153 ≤ (bs - 4) ∧ whJ4_init_da8c8 Z (hpN H q151 (.inr (11, [.null, .int 0, .int 0, .int 0]))) c153 s153 q151 (fun H153 => ∃ y154 : Int32, gF H153 x0 9 0 (.int y154) ∧ (∃ (n156 : Nat) (f157 : Nat → Option Nat) (y160 : Nat), hpG H153 x1 = some (qE (zY Z 7) n156 f157) ∧ vp_in y154 n156 ∧ f157 y154.toNatClampNeg = some y160 ∧ ((∃ fs, hpG H153 q151 = some (.inr (11, fs))) ∧ ∃ (c162 s162 : Nat), c162 ≤ ((bc - 1) - c153) ∧ s162 ≤ ((bs - 4) - s153) ∧ whJ4_append_15ec4 Z H153 c162 s162 q151 y160 (fun r162 H162 => ∃ y163 : Int32, gF H162 x0 9 1 (.int y163) ∧ ((∃ fs, hpG H162 r162 = some (.inr (11, fs))) ∧ ∃ (c165 s165 : Nat), c165 ≤ (((bc - 1) - c153) - c162) ∧ s165 ≤ (((bs - 4) - s153) - s162) ∧ whJ4_append_bf812 Z H162 c165 s165 r162 y163 (fun r165 H165 => (∃ fs, hpG H165 r165 = some (.inr (11, fs))) ∧ ∃ (c166 s166 : Nat), c166 ≤ ((((bc - 1) - c153) - c162) - c165) ∧ s166 ≤ ((((bs - 4) - s153) - s162) - s165) ∧ whJ4_append_15ec4 Z H165 c166 s166 r165 (Z.1 20) (fun r166 H166 => (∃ fs, hpG H166 r166 = some (.inr (11, fs))) ∧ ∃ (c167 s167 : Nat), c167 ≤ (((((bc - 1) - c153) - c162) - c165) - c166) ∧ s167 ≤ (((((bs - 4) - s153) - s162) - s165) - s166) ∧ whJ4_toString_0e30d Z H166 c167 s167 r166 (fun r167 H167 => K r167 H167)))))))))))))) ∧ (¬ 5 ≤ y3 → ∃ y168 : Int32, gF H x0 9 0 (.int y168) ∧ (∃ (n170 : Nat) (f171 : Nat → Option Nat) (y174 : Nat), hpG H x1 = some (qE (zY Z 7) n170 f171) ∧ vp_in y168 n170 ∧ f171 y168.toNatClampNeg = some y174 ∧ (K y174 H)))))) ∧ (y1 = 0 → 1 ≤ bc ∧ 4 ≤ bs ∧ (∀ q176 : Nat, hpG H q176 = none → (∃ (c178 s178 : Nat), c178 ≤ (bc - 1) ∧ s178 ≤ (bs - 4) ∧ whJ4_init_da8c8 Z (hpN H q176 (.inr (11, [.null, .int 0, .int 0, .int 0]))) c178 s178 q176 (fun H178 => (∃ fs, hpG H178 q176 = some (.inr (11, fs))) ∧ ∃ (c179 s179 : Nat), c179 ≤ ((bc - 1) - c178) ∧ s179 ≤ ((bs - 4) - s178) ∧ whJ4_append_15ec4 Z H178 c179 s179 q176 (Z.1 2) (fun r179 H179 => ∃ y180 : Int32, gF H179 x0 9 1 (.int y180) ∧ ((∃ fs, hpG H179 r179 = some (.inr (11, fs))) ∧ ∃ (c182 s182 : Nat), c182 ≤ (((bc - 1) - c178) - c179) ∧ s182 ≤ (((bs - 4) - s178) - s179) ∧ whJ4_append_bf812 Z H179 c182 s182 r179 y180 (fun r182 H182 => (∃ fs, hpG H182 r182 = some (.inr (11, fs))) ∧ ∃ (c183 s183 : Nat), c183 ≤ ((((bc - 1) - c178) - c179) - c182) ∧ s183 ≤ ((((bs - 4) - s178) - s179) - s182) ∧ whJ4_toString_0e30d Z H182 c183 s183 r182 (fun r183 H183 => K r183 H183))))))))))
set_option maxRecDepth 100000 in
def wX10_text_E (rec : gH → Nat → Nat → Nat → (Nat → gH → Prop) → Prop) (Z : gZ) (H : gH) (bc : Nat) (bs : Nat) (p : Nat) (K : Nat → gH → Prop) : Prop :=
  1 ≤ bc ∧ (7 : Int32).toNatClampNeg ≤ bs ∧ (∀ q1 : Nat, hpG H q1 = none → (1 ≤ (bc - 1) ∧ (6 : Int32).toNatClampNeg ≤ (bs - (7 : Int32).toNatClampNeg) ∧ (∀ q31 : Nat, hpG (hpN H q1 (qE (zY Z 7) (7 : Int32).toNatClampNeg (va_up (va_up (va_up (va_up (va_up (va_up (va_up (fun _ => none) (0 : Int32).toNatClampNeg (some (Z.1 2))) (1 : Int32).toNatClampNeg (some (Z.1 3))) (2 : Int32).toNatClampNeg (some (Z.1 4))) (3 : Int32).toNatClampNeg (some (Z.1 5))) (4 : Int32).toNatClampNeg (some (Z.1 6))) (5 : Int32).toNatClampNeg (some (Z.1 7))) (6 : Int32).toNatClampNeg (some (Z.1 8))))) q31 = none → (1 ≤ ((bc - 1) - 1) ∧ (5 : Int32).toNatClampNeg ≤ ((bs - (7 : Int32).toNatClampNeg) - (6 : Int32).toNatClampNeg) ∧ (∀ q57 : Nat, hpG (hpN (hpN H q1 (qE (zY Z 7) (7 : Int32).toNatClampNeg (va_up (va_up (va_up (va_up (va_up (va_up (va_up (fun _ => none) (0 : Int32).toNatClampNeg (some (Z.1 2))) (1 : Int32).toNatClampNeg (some (Z.1 3))) (2 : Int32).toNatClampNeg (some (Z.1 4))) (3 : Int32).toNatClampNeg (some (Z.1 5))) (4 : Int32).toNatClampNeg (some (Z.1 6))) (5 : Int32).toNatClampNeg (some (Z.1 7))) (6 : Int32).toNatClampNeg (some (Z.1 8))))) q31 (qE (zY Z 7) (6 : Int32).toNatClampNeg (va_up (va_up (va_up (va_up (va_up (va_up (fun _ => none) (0 : Int32).toNatClampNeg (some (Z.1 9))) (1 : Int32).toNatClampNeg (some (Z.1 10))) (2 : Int32).toNatClampNeg (some (Z.1 11))) (3 : Int32).toNatClampNeg (some (Z.1 12))) (4 : Int32).toNatClampNeg (some (Z.1 13))) (5 : Int32).toNatClampNeg (some (Z.1 14))))) q57 = none → (wX10_text_108 rec K Z (hpN (hpN (hpN H q1 (qE (zY Z 7) (7 : Int32).toNatClampNeg (va_up (va_up (va_up (va_up (va_up (va_up (va_up (fun _ => none) (0 : Int32).toNatClampNeg (some (Z.1 2))) (1 : Int32).toNatClampNeg (some (Z.1 3))) (2 : Int32).toNatClampNeg (some (Z.1 4))) (3 : Int32).toNatClampNeg (some (Z.1 5))) (4 : Int32).toNatClampNeg (some (Z.1 6))) (5 : Int32).toNatClampNeg (some (Z.1 7))) (6 : Int32).toNatClampNeg (some (Z.1 8))))) q31 (qE (zY Z 7) (6 : Int32).toNatClampNeg (va_up (va_up (va_up (va_up (va_up (va_up (fun _ => none) (0 : Int32).toNatClampNeg (some (Z.1 9))) (1 : Int32).toNatClampNeg (some (Z.1 10))) (2 : Int32).toNatClampNeg (some (Z.1 11))) (3 : Int32).toNatClampNeg (some (Z.1 12))) (4 : Int32).toNatClampNeg (some (Z.1 13))) (5 : Int32).toNatClampNeg (some (Z.1 14))))) q57 (qE (zY Z 7) (5 : Int32).toNatClampNeg (va_up (va_up (va_up (va_up (va_up (fun _ => none) (0 : Int32).toNatClampNeg (some (Z.1 15))) (1 : Int32).toNatClampNeg (some (Z.1 16))) (2 : Int32).toNatClampNeg (some (Z.1 17))) (3 : Int32).toNatClampNeg (some (Z.1 18))) (4 : Int32).toNatClampNeg (some (Z.1 19))))) (((bc - 1) - 1) - 1) (((bs - (7 : Int32).toNatClampNeg) - (6 : Int32).toNatClampNeg) - (5 : Int32).toNatClampNeg) p q1 q31 q57))))))
def wX10_text (Z : gZ) : Nat → gH → Nat → Nat → Nat → (Nat → gH → Prop) → Prop
  | 0, _, _, _, _, _ => False
  | d + 1, H, bc, bs, p, K => wX10_text_E (wX10_text Z d) Z H bc bs p K
set_option maxRecDepth 100000 in
set_option maxHeartbeats 4000000 in
theorem bX10_text_617 {D : gD} {E : gE} {A : Nat → Prop} {Q : State → Prop} {nr : Nat} {bc0 bs0 : Nat} (C : CL D E (rmX10_text (nr + 1) bc0 bs0) cX10_text 4 RX10 A) (hrec : ∀ (H : gH) (bc : Nat) (bs : Nat) (p : Nat) (K : Nat → gH → Prop), wX10_text D.2 nr H bc bs p K → CtQ E.2.1 D (gU (zY D.2)) yX10_text cX10_text 4 (.object "java/lang/String") (rmX10_text nr bc bs) [.ref p] ([] ++ hpW H) (fun u : gH => [] ++ hpW u) (fun r u => K r u)) {K : Nat → gH → Prop} (hret : ∀ (r : Nat) (H : gH) (pc : Nat) (ls : List (Nat × Value)), K r H → decode cX10_text pc = .ok (.areturn, 1) → Go D E A Q 4 bc0 bs0 ([] ++ hpW H) ls pc [.ref r]) : ∀ (cells slots : Nat) (H : gH) (bc : Nat) (bs : Nat) (x0 : Nat) (z0 : Nat) (z1 : Nat), cells + bc ≤ bc0 → slots + bs ≤ bs0 → wX10_text_617 (wX10_text D.2 nr) K D.2 H bc bs x0 z0 z1 → Go D E A Q 4 cells slots ([] ++ hpW H) [(0, .ref x0)] 617 [.ref z0, .ref z1] := by
  intro cells slots H bc bs x0 z0 z1 hbc hbs h
  unfold wX10_text_617 at h
  obtain ⟨⟨fs9, hr9⟩, h⟩ := h
  obtain ⟨c1, s1, hc1, hs1, h⟩ := h
  refine p_callVQ C (fun _ h => h) [] (chJ4_append_15ec4_ok _ h) cf_X10_106 im_J4_append_15ec4 se_J4_append_15ec4 (hRv_h (q := (RJ4, TJ4, 4)) hr9 rfl) rfl ⟨by show 5 + 1 ≤ _ * (nr + 1 + 1); omega, by show 8 + (2 + 11) + 127 ≤ _ * (nr + 1 + 1); omega⟩ ⟨by show cells + c1 ≤ bc0; omega, by show slots + s1 ≤ bs0; omega⟩ List.perm_append_comm (fun H1 : gH => [] ++ hpW H1) (fun _ => List.perm_append_comm) (rest := []) rfl (Nat.le_of_ble_eq_true rfl) dX10_text_617 (fun r1 H1 h => ?_)
  show Go D E A Q 4 (cells + c1) (slots + s1) ([] ++ hpW H1) [(0, .ref x0)] 620 [.ref r1]
  refine q_ldcK (i := 30) C (C.strR (i := 30) (Nat.le_of_ble_eq_true rfl)) dX10_text_620 ?_
  obtain ⟨⟨fs9, hr9⟩, h⟩ := h
  obtain ⟨c2, s2, hc2, hs2, h⟩ := h
  refine p_callVQ C (fun _ h => h) [] (chJ4_append_15ec4_ok _ h) cf_X10_106 im_J4_append_15ec4 se_J4_append_15ec4 (hRv_h (q := (RJ4, TJ4, 4)) hr9 rfl) rfl ⟨by show 5 + 1 ≤ _ * (nr + 1 + 1); omega, by show 8 + (2 + 11) + 127 ≤ _ * (nr + 1 + 1); omega⟩ ⟨by show cells + c1 + c2 ≤ bc0; omega, by show slots + s1 + s2 ≤ bs0; omega⟩ List.perm_append_comm (fun H2 : gH => [] ++ hpW H2) (fun _ => List.perm_append_comm) (rest := []) rfl (Nat.le_of_ble_eq_true rfl) dX10_text_622 (fun r2 H2 h => ?_)
  show Go D E A Q 4 (cells + c1 + c2) (slots + s1 + s2) ([] ++ hpW H2) [(0, .ref x0)] 625 [.ref r2]
  refine q_aload_n C dX10_text_625 0 rfl ?_
  obtain ⟨y3, e4, h⟩ := h
  refine h_get C inX10g (ci := 9) rfl 3 (by decide) fl_X10_58 rfl e4 dX10_text_626 ?_
  obtain ⟨⟨fs9, hr9⟩, h⟩ := h
  obtain ⟨c5, s5, hc5, hs5, h⟩ := h
  refine p_callVQ C (fun _ h => h) [] (hrec _ _ _ _ _ h) cf_X10_121 im_X10_text se_X10_text (hRv_h (q := (RX10, TX10, 4)) hr9 rfl) rfl ⟨by show _ * (nr + 1) + 1 ≤ _ * (nr + 1 + 1); omega, by show 8 + (4 + 11) + _ * (nr + 1) ≤ _ * (nr + 1 + 1); omega⟩ ⟨by show cells + c1 + c2 + c5 ≤ bc0; omega, by show slots + s1 + s2 + s5 ≤ bs0; omega⟩ List.perm_append_comm (fun H5 : gH => [] ++ hpW H5) (fun _ => List.perm_append_comm) (rest := [.ref r2]) rfl (Nat.le_of_ble_eq_true rfl) dX10_text_629 (fun r5 H5 h => ?_)
  show Go D E A Q 4 (cells + c1 + c2 + c5) (slots + s1 + s2 + s5) ([] ++ hpW H5) [(0, .ref x0)] 632 [.ref r5, .ref r2]
  obtain ⟨⟨fs9, hr9⟩, h⟩ := h
  obtain ⟨c6, s6, hc6, hs6, h⟩ := h
  refine p_callVQ C (fun _ h => h) [] (chJ4_append_15ec4_ok _ h) cf_X10_106 im_J4_append_15ec4 se_J4_append_15ec4 (hRv_h (q := (RJ4, TJ4, 4)) hr9 rfl) rfl ⟨by show 5 + 1 ≤ _ * (nr + 1 + 1); omega, by show 8 + (2 + 11) + 127 ≤ _ * (nr + 1 + 1); omega⟩ ⟨by show cells + c1 + c2 + c5 + c6 ≤ bc0; omega, by show slots + s1 + s2 + s5 + s6 ≤ bs0; omega⟩ List.perm_append_comm (fun H6 : gH => [] ++ hpW H6) (fun _ => List.perm_append_comm) (rest := []) rfl (Nat.le_of_ble_eq_true rfl) dX10_text_632 (fun r6 H6 h => ?_)
  show Go D E A Q 4 (cells + c1 + c2 + c5 + c6) (slots + s1 + s2 + s5 + s6) ([] ++ hpW H6) [(0, .ref x0)] 635 [.ref r6]
  refine q_ldcK (i := 29) C (C.strR (i := 29) (Nat.le_of_ble_eq_true rfl)) dX10_text_635 ?_
  obtain ⟨⟨fs9, hr9⟩, h⟩ := h
  obtain ⟨c7, s7, hc7, hs7, h⟩ := h
  refine p_callVQ C (fun _ h => h) [] (chJ4_append_15ec4_ok _ h) cf_X10_106 im_J4_append_15ec4 se_J4_append_15ec4 (hRv_h (q := (RJ4, TJ4, 4)) hr9 rfl) rfl ⟨by show 5 + 1 ≤ _ * (nr + 1 + 1); omega, by show 8 + (2 + 11) + 127 ≤ _ * (nr + 1 + 1); omega⟩ ⟨by show cells + c1 + c2 + c5 + c6 + c7 ≤ bc0; omega, by show slots + s1 + s2 + s5 + s6 + s7 ≤ bs0; omega⟩ List.perm_append_comm (fun H7 : gH => [] ++ hpW H7) (fun _ => List.perm_append_comm) (rest := []) rfl (Nat.le_of_ble_eq_true rfl) dX10_text_637 (fun r7 H7 h => ?_)
  show Go D E A Q 4 (cells + c1 + c2 + c5 + c6 + c7) (slots + s1 + s2 + s5 + s6 + s7) ([] ++ hpW H7) [(0, .ref x0)] 640 [.ref r7]
  obtain ⟨⟨fs9, hr9⟩, h⟩ := h
  obtain ⟨c8, s8, hc8, hs8, h⟩ := h
  refine p_callVQ C (fun _ h => h) [] (chJ4_toString_0e30d_ok _ h) cf_X10_113 im_J4_toString_0e30d se_J4_toString_0e30d (hRv_h (q := (RJ4, TJ4, 4)) hr9 rfl) rfl ⟨by show 5 + 1 ≤ _ * (nr + 1 + 1); omega, by show 8 + (1 + 11) + 151 ≤ _ * (nr + 1 + 1); omega⟩ ⟨by show cells + c1 + c2 + c5 + c6 + c7 + c8 ≤ bc0; omega, by show slots + s1 + s2 + s5 + s6 + s7 + s8 ≤ bs0; omega⟩ List.perm_append_comm (fun H8 : gH => [] ++ hpW H8) (fun _ => List.perm_append_comm) (rest := []) rfl (Nat.le_of_ble_eq_true rfl) dX10_text_640 (fun r8 H8 h => ?_)
  show Go D E A Q 4 (cells + c1 + c2 + c5 + c6 + c7 + c8) (slots + s1 + s2 + s5 + s6 + s7 + s8) ([] ++ hpW H8) [(0, .ref x0)] 643 [.ref r8]
  refine q_widen (k := bc0) (n := bs0) (by omega) (by omega) ?_
  exact hret r8 H8 _ _ h dX10_text_643
set_option maxRecDepth 100000 in
set_option maxHeartbeats 4000000 in
theorem bX10_text_108 {D : gD} {E : gE} {A : Nat → Prop} {Q : State → Prop} {nr : Nat} {bc0 bs0 : Nat} (C : CL D E (rmX10_text (nr + 1) bc0 bs0) cX10_text 4 RX10 A) (hrec : ∀ (H : gH) (bc : Nat) (bs : Nat) (p : Nat) (K : Nat → gH → Prop), wX10_text D.2 nr H bc bs p K → CtQ E.2.1 D (gU (zY D.2)) yX10_text cX10_text 4 (.object "java/lang/String") (rmX10_text nr bc bs) [.ref p] ([] ++ hpW H) (fun u : gH => [] ++ hpW u) (fun r u => K r u)) {K : Nat → gH → Prop} (hret : ∀ (r : Nat) (H : gH) (pc : Nat) (ls : List (Nat × Value)), K r H → decode cX10_text pc = .ok (.areturn, 1) → Go D E A Q 4 bc0 bs0 ([] ++ hpW H) ls pc [.ref r]) : ∀ (cells slots : Nat) (H : gH) (bc : Nat) (bs : Nat) (x0 : Nat) (x1 : Nat) (x2 : Nat) (x3 : Nat), cells + bc ≤ bc0 → slots + bs ≤ bs0 → wX10_text_108 (wX10_text D.2 nr) K D.2 H bc bs x0 x1 x2 x3 → Go D E A Q 4 cells slots ([] ++ hpW H) [(0, .ref x0), (1, .ref x1), (2, .ref x2), (3, .ref x3)] 108 [] := by
  intro cells slots H bc bs x0 x1 x2 x3 hbc hbs h
  unfold wX10_text_108 at h
  refine q_aload_n C dX10_text_108 0 rfl ?_
  obtain ⟨y1, e2, h⟩ := h
  refine h_get C inX10g (ci := 9) rfl 0 (by decide) fl_X10_7 rfl e2 dX10_text_109 ?_
  refine q_if_ne C 138 dX10_text_112 (by decide) h (fun h => ?_) (fun h => ?_)
  · refine q_aload_n C dX10_text_138 0 rfl ?_
    obtain ⟨y3, e4, h⟩ := h
    refine h_get C inX10g (ci := 9) rfl 0 (by decide) fl_X10_7 rfl e4 dX10_text_139 ?_
    refine q_iconst C (v := 5) dX10_text_142 (by decide) ?_
    refine q_icmp_ge C 153 dX10_text_143 (by decide) h (fun h => ?_) (fun h => ?_)
    · refine q_aload_n C dX10_text_153 0 rfl ?_
      obtain ⟨y5, e6, h⟩ := h
      refine h_get C inX10g (ci := 9) rfl 0 (by decide) fl_X10_7 rfl e6 dX10_text_154 ?_
      refine q_bipush C (v := 7) dX10_text_157 (by decide) ?_
      refine q_icmp_ge C 194 dX10_text_159 (by decide) h (fun h => ?_) (fun h => ?_)
      · refine q_aload_n C dX10_text_194 0 rfl ?_
        obtain ⟨y7, e8, h⟩ := h
        refine h_get C inX10g (ci := 9) rfl 0 (by decide) fl_X10_7 rfl e8 dX10_text_195 ?_
        refine q_bipush C (v := 7) dX10_text_198 (by decide) ?_
        refine q_icmp_ne C 234 dX10_text_200 (by decide) h (fun h => ?_) (fun h => ?_)
        · refine q_aload_n C dX10_text_234 0 rfl ?_
          obtain ⟨y9, e10, h⟩ := h
          refine h_get C inX10g (ci := 9) rfl 0 (by decide) fl_X10_7 rfl e10 dX10_text_235 ?_
          refine q_bipush C (v := 8) dX10_text_238 (by decide) ?_
          refine q_icmp_ne C 274 dX10_text_240 (by decide) h (fun h => ?_) (fun h => ?_)
          · refine q_aload_n C dX10_text_274 0 rfl ?_
            obtain ⟨y11, e12, h⟩ := h
            refine h_get C inX10g (ci := 9) rfl 0 (by decide) fl_X10_7 rfl e12 dX10_text_275 ?_
            refine q_bipush C (v := 13) dX10_text_278 (by decide) ?_
            refine q_icmp_ge C 346 dX10_text_280 (by decide) h (fun h => ?_) (fun h => ?_)
            · refine q_aload_n C dX10_text_346 0 rfl ?_
              obtain ⟨y13, e14, h⟩ := h
              refine h_get C inX10g (ci := 9) rfl 0 (by decide) fl_X10_7 rfl e14 dX10_text_347 ?_
              refine q_bipush C (v := 15) dX10_text_350 (by decide) ?_
              refine q_icmp_ge C 408 dX10_text_352 (by decide) h (fun h => ?_) (fun h => ?_)
              · refine q_aload_n C dX10_text_408 0 rfl ?_
                obtain ⟨y15, e16, h⟩ := h
                refine h_get C inX10g (ci := 9) rfl 0 (by decide) fl_X10_7 rfl e16 dX10_text_409 ?_
                refine q_bipush C (v := 25) dX10_text_412 (by decide) ?_
                refine q_icmp_ge C 460 dX10_text_414 (by decide) h (fun h => ?_) (fun h => ?_)
                · refine q_aload_n C dX10_text_460 0 rfl ?_
                  obtain ⟨y17, e18, h⟩ := h
                  refine h_get C inX10g (ci := 9) rfl 0 (by decide) fl_X10_7 rfl e18 dX10_text_461 ?_
                  refine q_bipush C (v := 25) dX10_text_464 (by decide) ?_
                  refine q_icmp_ne C 497 dX10_text_466 (by decide) h (fun h => ?_) (fun h => ?_)
                  · refine q_aload_n C dX10_text_497 0 rfl ?_
                    obtain ⟨y19, e20, h⟩ := h
                    refine h_get C inX10g (ci := 9) rfl 0 (by decide) fl_X10_7 rfl e20 dX10_text_498 ?_
                    refine q_bipush C (v := 26) dX10_text_501 (by decide) ?_
                    refine q_icmp_ne C 532 dX10_text_503 (by decide) h (fun h => ?_) (fun h => ?_)
                    · refine q_aload_n C dX10_text_532 0 rfl ?_
                      obtain ⟨y21, e22, h⟩ := h
                      refine h_get C inX10g (ci := 9) rfl 0 (by decide) fl_X10_7 rfl e22 dX10_text_533 ?_
                      refine q_bipush C (v := 29) dX10_text_536 (by decide) ?_
                      refine q_icmp_ne C 574 dX10_text_538 (by decide) h (fun h => ?_) (fun h => ?_)
                      · obtain ⟨b1, b2, h⟩ := h
                        refine h_new C inJ4g tyJ4_ok cl_X10_103 it_J4 ini_J4 (ci := 11) rfl (fs := [.null, .int 0, .int 0, .int 0]) (by decide) dX10_text_574 ⟨by show cells + 1 ≤ bc0; omega, by show slots + 4 ≤ bs0; omega⟩ (fun q23 g24 => ?_)
                        replace h := h q23 g24
                        refine q_dup C dX10_text_577 rfl ?_
                        obtain ⟨c25, s25, hc25, hs25, h⟩ := h
                        refine p_callIV C (fun _ h => h) [] (chJ4_init_da8c8_ok _ h) cf_X10_105 im_J4_init_da8c8 rfl rfl ⟨by show 2 + 1 ≤ _ * (nr + 1 + 1); omega, by show 8 + (1 + 11) + 41 ≤ _ * (nr + 1 + 1); omega⟩ ⟨by show cells + 1 + c25 ≤ bc0; omega, by show slots + 4 + s25 ≤ bs0; omega⟩ List.perm_append_comm (fun H25 : gH => [] ++ hpW H25) (fun _ => List.perm_append_comm) (rest := [.ref q23]) rfl (Nat.le_of_ble_eq_true rfl) dX10_text_578 (fun H25 h => ?_)
                        show Go D E A Q 4 (cells + 1 + c25) (slots + 4 + s25) ([] ++ hpW H25) [(0, .ref x0), (1, .ref x1), (2, .ref x2), (3, .ref x3)] 581 [.ref q23]
                        refine q_ldcK (i := 30) C (C.strR (i := 30) (Nat.le_of_ble_eq_true rfl)) dX10_text_581 ?_
                        obtain ⟨⟨fs9, hr9⟩, h⟩ := h
                        obtain ⟨c26, s26, hc26, hs26, h⟩ := h
                        refine p_callVQ C (fun _ h => h) [] (chJ4_append_15ec4_ok _ h) cf_X10_106 im_J4_append_15ec4 se_J4_append_15ec4 (hRv_h (q := (RJ4, TJ4, 4)) hr9 rfl) rfl ⟨by show 5 + 1 ≤ _ * (nr + 1 + 1); omega, by show 8 + (2 + 11) + 127 ≤ _ * (nr + 1 + 1); omega⟩ ⟨by show cells + 1 + c25 + c26 ≤ bc0; omega, by show slots + 4 + s25 + s26 ≤ bs0; omega⟩ List.perm_append_comm (fun H26 : gH => [] ++ hpW H26) (fun _ => List.perm_append_comm) (rest := []) rfl (Nat.le_of_ble_eq_true rfl) dX10_text_583 (fun r26 H26 h => ?_)
                        show Go D E A Q 4 (cells + 1 + c25 + c26) (slots + 4 + s25 + s26) ([] ++ hpW H26) [(0, .ref x0), (1, .ref x1), (2, .ref x2), (3, .ref x3)] 586 [.ref r26]
                        refine q_aload_n C dX10_text_586 0 rfl ?_
                        obtain ⟨y27, e28, h⟩ := h
                        refine h_get C inX10g (ci := 9) rfl 2 (by decide) fl_X10_40 rfl e28 dX10_text_587 ?_
                        obtain ⟨⟨fs9, hr9⟩, h⟩ := h
                        obtain ⟨c29, s29, hc29, hs29, h⟩ := h
                        refine p_callVQ C (fun _ h => h) [] (hrec _ _ _ _ _ h) cf_X10_121 im_X10_text se_X10_text (hRv_h (q := (RX10, TX10, 4)) hr9 rfl) rfl ⟨by show _ * (nr + 1) + 1 ≤ _ * (nr + 1 + 1); omega, by show 8 + (4 + 11) + _ * (nr + 1) ≤ _ * (nr + 1 + 1); omega⟩ ⟨by show cells + 1 + c25 + c26 + c29 ≤ bc0; omega, by show slots + 4 + s25 + s26 + s29 ≤ bs0; omega⟩ List.perm_append_comm (fun H29 : gH => [] ++ hpW H29) (fun _ => List.perm_append_comm) (rest := [.ref r26]) rfl (Nat.le_of_ble_eq_true rfl) dX10_text_590 (fun r29 H29 h => ?_)
                        show Go D E A Q 4 (cells + 1 + c25 + c26 + c29) (slots + 4 + s25 + s26 + s29) ([] ++ hpW H29) [(0, .ref x0), (1, .ref x1), (2, .ref x2), (3, .ref x3)] 593 [.ref r29, .ref r26]
                        obtain ⟨⟨fs9, hr9⟩, h⟩ := h
                        obtain ⟨c30, s30, hc30, hs30, h⟩ := h
                        refine p_callVQ C (fun _ h => h) [] (chJ4_append_15ec4_ok _ h) cf_X10_106 im_J4_append_15ec4 se_J4_append_15ec4 (hRv_h (q := (RJ4, TJ4, 4)) hr9 rfl) rfl ⟨by show 5 + 1 ≤ _ * (nr + 1 + 1); omega, by show 8 + (2 + 11) + 127 ≤ _ * (nr + 1 + 1); omega⟩ ⟨by show cells + 1 + c25 + c26 + c29 + c30 ≤ bc0; omega, by show slots + 4 + s25 + s26 + s29 + s30 ≤ bs0; omega⟩ List.perm_append_comm (fun H30 : gH => [] ++ hpW H30) (fun _ => List.perm_append_comm) (rest := []) rfl (Nat.le_of_ble_eq_true rfl) dX10_text_593 (fun r30 H30 h => ?_)
                        show Go D E A Q 4 (cells + 1 + c25 + c26 + c29 + c30) (slots + 4 + s25 + s26 + s29 + s30) ([] ++ hpW H30) [(0, .ref x0), (1, .ref x1), (2, .ref x2), (3, .ref x3)] 596 [.ref r30]
                        refine q_ldcK (i := 29) C (C.strR (i := 29) (Nat.le_of_ble_eq_true rfl)) dX10_text_596 ?_
                        obtain ⟨⟨fs9, hr9⟩, h⟩ := h
                        obtain ⟨c31, s31, hc31, hs31, h⟩ := h
                        refine p_callVQ C (fun _ h => h) [] (chJ4_append_15ec4_ok _ h) cf_X10_106 im_J4_append_15ec4 se_J4_append_15ec4 (hRv_h (q := (RJ4, TJ4, 4)) hr9 rfl) rfl ⟨by show 5 + 1 ≤ _ * (nr + 1 + 1); omega, by show 8 + (2 + 11) + 127 ≤ _ * (nr + 1 + 1); omega⟩ ⟨by show cells + 1 + c25 + c26 + c29 + c30 + c31 ≤ bc0; omega, by show slots + 4 + s25 + s26 + s29 + s30 + s31 ≤ bs0; omega⟩ List.perm_append_comm (fun H31 : gH => [] ++ hpW H31) (fun _ => List.perm_append_comm) (rest := []) rfl (Nat.le_of_ble_eq_true rfl) dX10_text_598 (fun r31 H31 h => ?_)
                        show Go D E A Q 4 (cells + 1 + c25 + c26 + c29 + c30 + c31) (slots + 4 + s25 + s26 + s29 + s30 + s31) ([] ++ hpW H31) [(0, .ref x0), (1, .ref x1), (2, .ref x2), (3, .ref x3)] 601 [.ref r31]
                        refine q_aload_n C dX10_text_601 0 rfl ?_
                        obtain ⟨y32, e33, h⟩ := h
                        refine h_get C inX10g (ci := 9) rfl 0 (by decide) fl_X10_7 rfl e33 dX10_text_602 ?_
                        refine q_bipush C (v := 30) dX10_text_605 (by decide) ?_
                        refine q_icmp_ne C 615 dX10_text_607 (by decide) h (fun h => ?_) (fun h => ?_)
                        · refine q_ldcK (i := 32) C (C.strR (i := 32) (Nat.le_of_ble_eq_true rfl)) dX10_text_615 ?_
                          refine q_ls [(0, .ref x0)] [0] rfl ?_
                          exact bX10_text_617 C hrec  hret  (cells + 1 + c25 + c26 + c29 + c30 + c31) (slots + 4 + s25 + s26 + s29 + s30 + s31) _ _ _ _ _ _ (by omega) (by omega) h
                        · refine q_ldcK (i := 31) C (C.strR (i := 31) (Nat.le_of_ble_eq_true rfl)) dX10_text_610 ?_
                          refine q_goto (tgt := 617) C dX10_text_612 (by decide) ?_
                          refine q_ls [(0, .ref x0)] [0] rfl ?_
                          exact bX10_text_617 C hrec  hret  (cells + 1 + c25 + c26 + c29 + c30 + c31) (slots + 4 + s25 + s26 + s29 + s30 + s31) _ _ _ _ _ _ (by omega) (by omega) h
                      · obtain ⟨b1, b2, h⟩ := h
                        refine h_new C inJ4g tyJ4_ok cl_X10_103 it_J4 ini_J4 (ci := 11) rfl (fs := [.null, .int 0, .int 0, .int 0]) (by decide) dX10_text_541 ⟨by show cells + 1 ≤ bc0; omega, by show slots + 4 ≤ bs0; omega⟩ (fun q34 g35 => ?_)
                        replace h := h q34 g35
                        refine q_dup C dX10_text_544 rfl ?_
                        obtain ⟨c36, s36, hc36, hs36, h⟩ := h
                        refine p_callIV C (fun _ h => h) [] (chJ4_init_da8c8_ok _ h) cf_X10_105 im_J4_init_da8c8 rfl rfl ⟨by show 2 + 1 ≤ _ * (nr + 1 + 1); omega, by show 8 + (1 + 11) + 41 ≤ _ * (nr + 1 + 1); omega⟩ ⟨by show cells + 1 + c36 ≤ bc0; omega, by show slots + 4 + s36 ≤ bs0; omega⟩ List.perm_append_comm (fun H36 : gH => [] ++ hpW H36) (fun _ => List.perm_append_comm) (rest := [.ref q34]) rfl (Nat.le_of_ble_eq_true rfl) dX10_text_545 (fun H36 h => ?_)
                        show Go D E A Q 4 (cells + 1 + c36) (slots + 4 + s36) ([] ++ hpW H36) [(0, .ref x0), (1, .ref x1), (2, .ref x2), (3, .ref x3)] 548 [.ref q34]
                        refine q_ldcK (i := 28) C (C.strR (i := 28) (Nat.le_of_ble_eq_true rfl)) dX10_text_548 ?_
                        obtain ⟨⟨fs9, hr9⟩, h⟩ := h
                        obtain ⟨c37, s37, hc37, hs37, h⟩ := h
                        refine p_callVQ C (fun _ h => h) [] (chJ4_append_15ec4_ok _ h) cf_X10_106 im_J4_append_15ec4 se_J4_append_15ec4 (hRv_h (q := (RJ4, TJ4, 4)) hr9 rfl) rfl ⟨by show 5 + 1 ≤ _ * (nr + 1 + 1); omega, by show 8 + (2 + 11) + 127 ≤ _ * (nr + 1 + 1); omega⟩ ⟨by show cells + 1 + c36 + c37 ≤ bc0; omega, by show slots + 4 + s36 + s37 ≤ bs0; omega⟩ List.perm_append_comm (fun H37 : gH => [] ++ hpW H37) (fun _ => List.perm_append_comm) (rest := []) rfl (Nat.le_of_ble_eq_true rfl) dX10_text_550 (fun r37 H37 h => ?_)
                        show Go D E A Q 4 (cells + 1 + c36 + c37) (slots + 4 + s36 + s37) ([] ++ hpW H37) [(0, .ref x0), (1, .ref x1), (2, .ref x2), (3, .ref x3)] 553 [.ref r37]
                        refine q_aload_n C dX10_text_553 0 rfl ?_
                        obtain ⟨y38, e39, h⟩ := h
                        refine h_get C inX10g (ci := 9) rfl 2 (by decide) fl_X10_40 rfl e39 dX10_text_554 ?_
                        obtain ⟨⟨fs9, hr9⟩, h⟩ := h
                        obtain ⟨c40, s40, hc40, hs40, h⟩ := h
                        refine p_callVQ C (fun _ h => h) [] (hrec _ _ _ _ _ h) cf_X10_121 im_X10_text se_X10_text (hRv_h (q := (RX10, TX10, 4)) hr9 rfl) rfl ⟨by show _ * (nr + 1) + 1 ≤ _ * (nr + 1 + 1); omega, by show 8 + (4 + 11) + _ * (nr + 1) ≤ _ * (nr + 1 + 1); omega⟩ ⟨by show cells + 1 + c36 + c37 + c40 ≤ bc0; omega, by show slots + 4 + s36 + s37 + s40 ≤ bs0; omega⟩ List.perm_append_comm (fun H40 : gH => [] ++ hpW H40) (fun _ => List.perm_append_comm) (rest := [.ref r37]) rfl (Nat.le_of_ble_eq_true rfl) dX10_text_557 (fun r40 H40 h => ?_)
                        show Go D E A Q 4 (cells + 1 + c36 + c37 + c40) (slots + 4 + s36 + s37 + s40) ([] ++ hpW H40) [(0, .ref x0), (1, .ref x1), (2, .ref x2), (3, .ref x3)] 560 [.ref r40, .ref r37]
                        obtain ⟨⟨fs9, hr9⟩, h⟩ := h
                        obtain ⟨c41, s41, hc41, hs41, h⟩ := h
                        refine p_callVQ C (fun _ h => h) [] (chJ4_append_15ec4_ok _ h) cf_X10_106 im_J4_append_15ec4 se_J4_append_15ec4 (hRv_h (q := (RJ4, TJ4, 4)) hr9 rfl) rfl ⟨by show 5 + 1 ≤ _ * (nr + 1 + 1); omega, by show 8 + (2 + 11) + 127 ≤ _ * (nr + 1 + 1); omega⟩ ⟨by show cells + 1 + c36 + c37 + c40 + c41 ≤ bc0; omega, by show slots + 4 + s36 + s37 + s40 + s41 ≤ bs0; omega⟩ List.perm_append_comm (fun H41 : gH => [] ++ hpW H41) (fun _ => List.perm_append_comm) (rest := []) rfl (Nat.le_of_ble_eq_true rfl) dX10_text_560 (fun r41 H41 h => ?_)
                        show Go D E A Q 4 (cells + 1 + c36 + c37 + c40 + c41) (slots + 4 + s36 + s37 + s40 + s41) ([] ++ hpW H41) [(0, .ref x0), (1, .ref x1), (2, .ref x2), (3, .ref x3)] 563 [.ref r41]
                        refine q_ldcK (i := 29) C (C.strR (i := 29) (Nat.le_of_ble_eq_true rfl)) dX10_text_563 ?_
                        obtain ⟨⟨fs9, hr9⟩, h⟩ := h
                        obtain ⟨c42, s42, hc42, hs42, h⟩ := h
                        refine p_callVQ C (fun _ h => h) [] (chJ4_append_15ec4_ok _ h) cf_X10_106 im_J4_append_15ec4 se_J4_append_15ec4 (hRv_h (q := (RJ4, TJ4, 4)) hr9 rfl) rfl ⟨by show 5 + 1 ≤ _ * (nr + 1 + 1); omega, by show 8 + (2 + 11) + 127 ≤ _ * (nr + 1 + 1); omega⟩ ⟨by show cells + 1 + c36 + c37 + c40 + c41 + c42 ≤ bc0; omega, by show slots + 4 + s36 + s37 + s40 + s41 + s42 ≤ bs0; omega⟩ List.perm_append_comm (fun H42 : gH => [] ++ hpW H42) (fun _ => List.perm_append_comm) (rest := []) rfl (Nat.le_of_ble_eq_true rfl) dX10_text_565 (fun r42 H42 h => ?_)
                        show Go D E A Q 4 (cells + 1 + c36 + c37 + c40 + c41 + c42) (slots + 4 + s36 + s37 + s40 + s41 + s42) ([] ++ hpW H42) [(0, .ref x0), (1, .ref x1), (2, .ref x2), (3, .ref x3)] 568 [.ref r42]
                        obtain ⟨⟨fs9, hr9⟩, h⟩ := h
                        obtain ⟨c43, s43, hc43, hs43, h⟩ := h
                        refine p_callVQ C (fun _ h => h) [] (chJ4_toString_0e30d_ok _ h) cf_X10_113 im_J4_toString_0e30d se_J4_toString_0e30d (hRv_h (q := (RJ4, TJ4, 4)) hr9 rfl) rfl ⟨by show 5 + 1 ≤ _ * (nr + 1 + 1); omega, by show 8 + (1 + 11) + 151 ≤ _ * (nr + 1 + 1); omega⟩ ⟨by show cells + 1 + c36 + c37 + c40 + c41 + c42 + c43 ≤ bc0; omega, by show slots + 4 + s36 + s37 + s40 + s41 + s42 + s43 ≤ bs0; omega⟩ List.perm_append_comm (fun H43 : gH => [] ++ hpW H43) (fun _ => List.perm_append_comm) (rest := []) rfl (Nat.le_of_ble_eq_true rfl) dX10_text_568 (fun r43 H43 h => ?_)
                        show Go D E A Q 4 (cells + 1 + c36 + c37 + c40 + c41 + c42 + c43) (slots + 4 + s36 + s37 + s40 + s41 + s42 + s43) ([] ++ hpW H43) [(0, .ref x0), (1, .ref x1), (2, .ref x2), (3, .ref x3)] 571 [.ref r43]
                        refine q_goto (tgt := 643) C dX10_text_571 (by decide) ?_
                        refine q_widen (k := bc0) (n := bs0) (by omega) (by omega) ?_
                        exact hret r43 H43 _ _ h dX10_text_643
                    · obtain ⟨b1, b2, h⟩ := h
                      refine h_new C inJ4g tyJ4_ok cl_X10_103 it_J4 ini_J4 (ci := 11) rfl (fs := [.null, .int 0, .int 0, .int 0]) (by decide) dX10_text_506 ⟨by show cells + 1 ≤ bc0; omega, by show slots + 4 ≤ bs0; omega⟩ (fun q44 g45 => ?_)
                      replace h := h q44 g45
                      refine q_dup C dX10_text_509 rfl ?_
                      obtain ⟨c46, s46, hc46, hs46, h⟩ := h
                      refine p_callIV C (fun _ h => h) [] (chJ4_init_da8c8_ok _ h) cf_X10_105 im_J4_init_da8c8 rfl rfl ⟨by show 2 + 1 ≤ _ * (nr + 1 + 1); omega, by show 8 + (1 + 11) + 41 ≤ _ * (nr + 1 + 1); omega⟩ ⟨by show cells + 1 + c46 ≤ bc0; omega, by show slots + 4 + s46 ≤ bs0; omega⟩ List.perm_append_comm (fun H46 : gH => [] ++ hpW H46) (fun _ => List.perm_append_comm) (rest := [.ref q44]) rfl (Nat.le_of_ble_eq_true rfl) dX10_text_510 (fun H46 h => ?_)
                      show Go D E A Q 4 (cells + 1 + c46) (slots + 4 + s46) ([] ++ hpW H46) [(0, .ref x0), (1, .ref x1), (2, .ref x2), (3, .ref x3)] 513 [.ref q44]
                      refine q_ldcK (i := 27) C (C.strR (i := 27) (Nat.le_of_ble_eq_true rfl)) dX10_text_513 ?_
                      obtain ⟨⟨fs9, hr9⟩, h⟩ := h
                      obtain ⟨c47, s47, hc47, hs47, h⟩ := h
                      refine p_callVQ C (fun _ h => h) [] (chJ4_append_15ec4_ok _ h) cf_X10_106 im_J4_append_15ec4 se_J4_append_15ec4 (hRv_h (q := (RJ4, TJ4, 4)) hr9 rfl) rfl ⟨by show 5 + 1 ≤ _ * (nr + 1 + 1); omega, by show 8 + (2 + 11) + 127 ≤ _ * (nr + 1 + 1); omega⟩ ⟨by show cells + 1 + c46 + c47 ≤ bc0; omega, by show slots + 4 + s46 + s47 ≤ bs0; omega⟩ List.perm_append_comm (fun H47 : gH => [] ++ hpW H47) (fun _ => List.perm_append_comm) (rest := []) rfl (Nat.le_of_ble_eq_true rfl) dX10_text_515 (fun r47 H47 h => ?_)
                      show Go D E A Q 4 (cells + 1 + c46 + c47) (slots + 4 + s46 + s47) ([] ++ hpW H47) [(0, .ref x0), (1, .ref x1), (2, .ref x2), (3, .ref x3)] 518 [.ref r47]
                      refine q_aload_n C dX10_text_518 0 rfl ?_
                      obtain ⟨y48, e49, h⟩ := h
                      refine h_get C inX10g (ci := 9) rfl 2 (by decide) fl_X10_40 rfl e49 dX10_text_519 ?_
                      obtain ⟨⟨fs9, hr9⟩, h⟩ := h
                      obtain ⟨c50, s50, hc50, hs50, h⟩ := h
                      refine p_callVQ C (fun _ h => h) [] (hrec _ _ _ _ _ h) cf_X10_121 im_X10_text se_X10_text (hRv_h (q := (RX10, TX10, 4)) hr9 rfl) rfl ⟨by show _ * (nr + 1) + 1 ≤ _ * (nr + 1 + 1); omega, by show 8 + (4 + 11) + _ * (nr + 1) ≤ _ * (nr + 1 + 1); omega⟩ ⟨by show cells + 1 + c46 + c47 + c50 ≤ bc0; omega, by show slots + 4 + s46 + s47 + s50 ≤ bs0; omega⟩ List.perm_append_comm (fun H50 : gH => [] ++ hpW H50) (fun _ => List.perm_append_comm) (rest := [.ref r47]) rfl (Nat.le_of_ble_eq_true rfl) dX10_text_522 (fun r50 H50 h => ?_)
                      show Go D E A Q 4 (cells + 1 + c46 + c47 + c50) (slots + 4 + s46 + s47 + s50) ([] ++ hpW H50) [(0, .ref x0), (1, .ref x1), (2, .ref x2), (3, .ref x3)] 525 [.ref r50, .ref r47]
                      obtain ⟨⟨fs9, hr9⟩, h⟩ := h
                      obtain ⟨c51, s51, hc51, hs51, h⟩ := h
                      refine p_callVQ C (fun _ h => h) [] (chJ4_append_15ec4_ok _ h) cf_X10_106 im_J4_append_15ec4 se_J4_append_15ec4 (hRv_h (q := (RJ4, TJ4, 4)) hr9 rfl) rfl ⟨by show 5 + 1 ≤ _ * (nr + 1 + 1); omega, by show 8 + (2 + 11) + 127 ≤ _ * (nr + 1 + 1); omega⟩ ⟨by show cells + 1 + c46 + c47 + c50 + c51 ≤ bc0; omega, by show slots + 4 + s46 + s47 + s50 + s51 ≤ bs0; omega⟩ List.perm_append_comm (fun H51 : gH => [] ++ hpW H51) (fun _ => List.perm_append_comm) (rest := []) rfl (Nat.le_of_ble_eq_true rfl) dX10_text_525 (fun r51 H51 h => ?_)
                      show Go D E A Q 4 (cells + 1 + c46 + c47 + c50 + c51) (slots + 4 + s46 + s47 + s50 + s51) ([] ++ hpW H51) [(0, .ref x0), (1, .ref x1), (2, .ref x2), (3, .ref x3)] 528 [.ref r51]
                      obtain ⟨⟨fs9, hr9⟩, h⟩ := h
                      obtain ⟨c52, s52, hc52, hs52, h⟩ := h
                      refine p_callVQ C (fun _ h => h) [] (chJ4_toString_0e30d_ok _ h) cf_X10_113 im_J4_toString_0e30d se_J4_toString_0e30d (hRv_h (q := (RJ4, TJ4, 4)) hr9 rfl) rfl ⟨by show 5 + 1 ≤ _ * (nr + 1 + 1); omega, by show 8 + (1 + 11) + 151 ≤ _ * (nr + 1 + 1); omega⟩ ⟨by show cells + 1 + c46 + c47 + c50 + c51 + c52 ≤ bc0; omega, by show slots + 4 + s46 + s47 + s50 + s51 + s52 ≤ bs0; omega⟩ List.perm_append_comm (fun H52 : gH => [] ++ hpW H52) (fun _ => List.perm_append_comm) (rest := []) rfl (Nat.le_of_ble_eq_true rfl) dX10_text_528 (fun r52 H52 h => ?_)
                      show Go D E A Q 4 (cells + 1 + c46 + c47 + c50 + c51 + c52) (slots + 4 + s46 + s47 + s50 + s51 + s52) ([] ++ hpW H52) [(0, .ref x0), (1, .ref x1), (2, .ref x2), (3, .ref x3)] 531 [.ref r52]
                      refine q_widen (k := bc0) (n := bs0) (by omega) (by omega) ?_
                      exact hret r52 H52 _ _ h dX10_text_531
                  · obtain ⟨b1, b2, h⟩ := h
                    refine h_new C inJ4g tyJ4_ok cl_X10_103 it_J4 ini_J4 (ci := 11) rfl (fs := [.null, .int 0, .int 0, .int 0]) (by decide) dX10_text_469 ⟨by show cells + 1 ≤ bc0; omega, by show slots + 4 ≤ bs0; omega⟩ (fun q53 g54 => ?_)
                    replace h := h q53 g54
                    refine q_dup C dX10_text_472 rfl ?_
                    obtain ⟨c55, s55, hc55, hs55, h⟩ := h
                    refine p_callIV C (fun _ h => h) [] (chJ4_init_da8c8_ok _ h) cf_X10_105 im_J4_init_da8c8 rfl rfl ⟨by show 2 + 1 ≤ _ * (nr + 1 + 1); omega, by show 8 + (1 + 11) + 41 ≤ _ * (nr + 1 + 1); omega⟩ ⟨by show cells + 1 + c55 ≤ bc0; omega, by show slots + 4 + s55 ≤ bs0; omega⟩ List.perm_append_comm (fun H55 : gH => [] ++ hpW H55) (fun _ => List.perm_append_comm) (rest := [.ref q53]) rfl (Nat.le_of_ble_eq_true rfl) dX10_text_473 (fun H55 h => ?_)
                    show Go D E A Q 4 (cells + 1 + c55) (slots + 4 + s55) ([] ++ hpW H55) [(0, .ref x0), (1, .ref x1), (2, .ref x2), (3, .ref x3)] 476 [.ref q53]
                    refine q_ldcK (i := 26) C (C.strR (i := 26) (Nat.le_of_ble_eq_true rfl)) dX10_text_476 ?_
                    obtain ⟨⟨fs9, hr9⟩, h⟩ := h
                    obtain ⟨c56, s56, hc56, hs56, h⟩ := h
                    refine p_callVQ C (fun _ h => h) [] (chJ4_append_15ec4_ok _ h) cf_X10_106 im_J4_append_15ec4 se_J4_append_15ec4 (hRv_h (q := (RJ4, TJ4, 4)) hr9 rfl) rfl ⟨by show 5 + 1 ≤ _ * (nr + 1 + 1); omega, by show 8 + (2 + 11) + 127 ≤ _ * (nr + 1 + 1); omega⟩ ⟨by show cells + 1 + c55 + c56 ≤ bc0; omega, by show slots + 4 + s55 + s56 ≤ bs0; omega⟩ List.perm_append_comm (fun H56 : gH => [] ++ hpW H56) (fun _ => List.perm_append_comm) (rest := []) rfl (Nat.le_of_ble_eq_true rfl) dX10_text_478 (fun r56 H56 h => ?_)
                    show Go D E A Q 4 (cells + 1 + c55 + c56) (slots + 4 + s55 + s56) ([] ++ hpW H56) [(0, .ref x0), (1, .ref x1), (2, .ref x2), (3, .ref x3)] 481 [.ref r56]
                    refine q_aload_n C dX10_text_481 0 rfl ?_
                    obtain ⟨y57, e58, h⟩ := h
                    refine h_get C inX10g (ci := 9) rfl 1 (by decide) fl_X10_13 rfl e58 dX10_text_482 ?_
                    obtain ⟨⟨fs9, hr9⟩, h⟩ := h
                    obtain ⟨c59, s59, hc59, hs59, h⟩ := h
                    refine p_callVQ C (fun _ h => h) [] (chJ4_append_bf812_ok _ h) cf_X10_110 im_J4_append_bf812 se_J4_append_bf812 (hRv_h (q := (RJ4, TJ4, 4)) hr9 rfl) rfl ⟨by show 5 + 1 ≤ _ * (nr + 1 + 1); omega, by show 8 + (2 + 11) + 127 ≤ _ * (nr + 1 + 1); omega⟩ ⟨by show cells + 1 + c55 + c56 + c59 ≤ bc0; omega, by show slots + 4 + s55 + s56 + s59 ≤ bs0; omega⟩ List.perm_append_comm (fun H59 : gH => [] ++ hpW H59) (fun _ => List.perm_append_comm) (rest := []) rfl (Nat.le_of_ble_eq_true rfl) dX10_text_485 (fun r59 H59 h => ?_)
                    show Go D E A Q 4 (cells + 1 + c55 + c56 + c59) (slots + 4 + s55 + s56 + s59) ([] ++ hpW H59) [(0, .ref x0), (1, .ref x1), (2, .ref x2), (3, .ref x3)] 488 [.ref r59]
                    refine q_ldcK (i := 20) C (C.strR (i := 20) (Nat.le_of_ble_eq_true rfl)) dX10_text_488 ?_
                    obtain ⟨⟨fs9, hr9⟩, h⟩ := h
                    obtain ⟨c60, s60, hc60, hs60, h⟩ := h
                    refine p_callVQ C (fun _ h => h) [] (chJ4_append_15ec4_ok _ h) cf_X10_106 im_J4_append_15ec4 se_J4_append_15ec4 (hRv_h (q := (RJ4, TJ4, 4)) hr9 rfl) rfl ⟨by show 5 + 1 ≤ _ * (nr + 1 + 1); omega, by show 8 + (2 + 11) + 127 ≤ _ * (nr + 1 + 1); omega⟩ ⟨by show cells + 1 + c55 + c56 + c59 + c60 ≤ bc0; omega, by show slots + 4 + s55 + s56 + s59 + s60 ≤ bs0; omega⟩ List.perm_append_comm (fun H60 : gH => [] ++ hpW H60) (fun _ => List.perm_append_comm) (rest := []) rfl (Nat.le_of_ble_eq_true rfl) dX10_text_490 (fun r60 H60 h => ?_)
                    show Go D E A Q 4 (cells + 1 + c55 + c56 + c59 + c60) (slots + 4 + s55 + s56 + s59 + s60) ([] ++ hpW H60) [(0, .ref x0), (1, .ref x1), (2, .ref x2), (3, .ref x3)] 493 [.ref r60]
                    obtain ⟨⟨fs9, hr9⟩, h⟩ := h
                    obtain ⟨c61, s61, hc61, hs61, h⟩ := h
                    refine p_callVQ C (fun _ h => h) [] (chJ4_toString_0e30d_ok _ h) cf_X10_113 im_J4_toString_0e30d se_J4_toString_0e30d (hRv_h (q := (RJ4, TJ4, 4)) hr9 rfl) rfl ⟨by show 5 + 1 ≤ _ * (nr + 1 + 1); omega, by show 8 + (1 + 11) + 151 ≤ _ * (nr + 1 + 1); omega⟩ ⟨by show cells + 1 + c55 + c56 + c59 + c60 + c61 ≤ bc0; omega, by show slots + 4 + s55 + s56 + s59 + s60 + s61 ≤ bs0; omega⟩ List.perm_append_comm (fun H61 : gH => [] ++ hpW H61) (fun _ => List.perm_append_comm) (rest := []) rfl (Nat.le_of_ble_eq_true rfl) dX10_text_493 (fun r61 H61 h => ?_)
                    show Go D E A Q 4 (cells + 1 + c55 + c56 + c59 + c60 + c61) (slots + 4 + s55 + s56 + s59 + s60 + s61) ([] ++ hpW H61) [(0, .ref x0), (1, .ref x1), (2, .ref x2), (3, .ref x3)] 496 [.ref r61]
                    refine q_widen (k := bc0) (n := bs0) (by omega) (by omega) ?_
                    exact hret r61 H61 _ _ h dX10_text_496
                · obtain ⟨b1, b2, h⟩ := h
                  refine h_new C inJ4g tyJ4_ok cl_X10_103 it_J4 ini_J4 (ci := 11) rfl (fs := [.null, .int 0, .int 0, .int 0]) (by decide) dX10_text_417 ⟨by show cells + 1 ≤ bc0; omega, by show slots + 4 ≤ bs0; omega⟩ (fun q62 g63 => ?_)
                  replace h := h q62 g63
                  refine q_dup C dX10_text_420 rfl ?_
                  obtain ⟨c64, s64, hc64, hs64, h⟩ := h
                  refine p_callIV C (fun _ h => h) [] (chJ4_init_da8c8_ok _ h) cf_X10_105 im_J4_init_da8c8 rfl rfl ⟨by show 2 + 1 ≤ _ * (nr + 1 + 1); omega, by show 8 + (1 + 11) + 41 ≤ _ * (nr + 1 + 1); omega⟩ ⟨by show cells + 1 + c64 ≤ bc0; omega, by show slots + 4 + s64 ≤ bs0; omega⟩ List.perm_append_comm (fun H64 : gH => [] ++ hpW H64) (fun _ => List.perm_append_comm) (rest := [.ref q62]) rfl (Nat.le_of_ble_eq_true rfl) dX10_text_421 (fun H64 h => ?_)
                  show Go D E A Q 4 (cells + 1 + c64) (slots + 4 + s64) ([] ++ hpW H64) [(0, .ref x0), (1, .ref x1), (2, .ref x2), (3, .ref x3)] 424 [.ref q62]
                  refine q_aload_n C dX10_text_424 0 rfl ?_
                  obtain ⟨y65, e66, h⟩ := h
                  refine h_get C inX10g (ci := 9) rfl 2 (by decide) fl_X10_40 rfl e66 dX10_text_425 ?_
                  obtain ⟨⟨fs9, hr9⟩, h⟩ := h
                  obtain ⟨c67, s67, hc67, hs67, h⟩ := h
                  refine p_callVQ C (fun _ h => h) [] (hrec _ _ _ _ _ h) cf_X10_121 im_X10_text se_X10_text (hRv_h (q := (RX10, TX10, 4)) hr9 rfl) rfl ⟨by show _ * (nr + 1) + 1 ≤ _ * (nr + 1 + 1); omega, by show 8 + (4 + 11) + _ * (nr + 1) ≤ _ * (nr + 1 + 1); omega⟩ ⟨by show cells + 1 + c64 + c67 ≤ bc0; omega, by show slots + 4 + s64 + s67 ≤ bs0; omega⟩ List.perm_append_comm (fun H67 : gH => [] ++ hpW H67) (fun _ => List.perm_append_comm) (rest := [.ref q62]) rfl (Nat.le_of_ble_eq_true rfl) dX10_text_428 (fun r67 H67 h => ?_)
                  show Go D E A Q 4 (cells + 1 + c64 + c67) (slots + 4 + s64 + s67) ([] ++ hpW H67) [(0, .ref x0), (1, .ref x1), (2, .ref x2), (3, .ref x3)] 431 [.ref r67, .ref q62]
                  obtain ⟨⟨fs9, hr9⟩, h⟩ := h
                  obtain ⟨c68, s68, hc68, hs68, h⟩ := h
                  refine p_callVQ C (fun _ h => h) [] (chJ4_append_15ec4_ok _ h) cf_X10_106 im_J4_append_15ec4 se_J4_append_15ec4 (hRv_h (q := (RJ4, TJ4, 4)) hr9 rfl) rfl ⟨by show 5 + 1 ≤ _ * (nr + 1 + 1); omega, by show 8 + (2 + 11) + 127 ≤ _ * (nr + 1 + 1); omega⟩ ⟨by show cells + 1 + c64 + c67 + c68 ≤ bc0; omega, by show slots + 4 + s64 + s67 + s68 ≤ bs0; omega⟩ List.perm_append_comm (fun H68 : gH => [] ++ hpW H68) (fun _ => List.perm_append_comm) (rest := []) rfl (Nat.le_of_ble_eq_true rfl) dX10_text_431 (fun r68 H68 h => ?_)
                  show Go D E A Q 4 (cells + 1 + c64 + c67 + c68) (slots + 4 + s64 + s67 + s68) ([] ++ hpW H68) [(0, .ref x0), (1, .ref x1), (2, .ref x2), (3, .ref x3)] 434 [.ref r68]
                  refine q_aload_n C dX10_text_434 3 rfl ?_
                  refine q_aload_n C dX10_text_435 0 rfl ?_
                  obtain ⟨y69, e70, h⟩ := h
                  refine h_get C inX10g (ci := 9) rfl 0 (by decide) fl_X10_7 rfl e70 dX10_text_436 ?_
                  refine q_bipush C (v := 20) dX10_text_439 (by decide) ?_
                  refine q_isub C dX10_text_441 ?_
                  obtain ⟨n71, f72, y75, e73, i74, g76, h⟩ := h
                  refine h_aldR C 7 rfl rfl e73 i74 g76 dX10_text_442 ?_
                  obtain ⟨⟨fs9, hr9⟩, h⟩ := h
                  obtain ⟨c77, s77, hc77, hs77, h⟩ := h
                  refine p_callVQ C (fun _ h => h) [] (chJ4_append_15ec4_ok _ h) cf_X10_106 im_J4_append_15ec4 se_J4_append_15ec4 (hRv_h (q := (RJ4, TJ4, 4)) hr9 rfl) rfl ⟨by show 5 + 1 ≤ _ * (nr + 1 + 1); omega, by show 8 + (2 + 11) + 127 ≤ _ * (nr + 1 + 1); omega⟩ ⟨by show cells + 1 + c64 + c67 + c68 + c77 ≤ bc0; omega, by show slots + 4 + s64 + s67 + s68 + s77 ≤ bs0; omega⟩ List.perm_append_comm (fun H77 : gH => [] ++ hpW H77) (fun _ => List.perm_append_comm) (rest := []) rfl (Nat.le_of_ble_eq_true rfl) dX10_text_443 (fun r77 H77 h => ?_)
                  show Go D E A Q 4 (cells + 1 + c64 + c67 + c68 + c77) (slots + 4 + s64 + s67 + s68 + s77) ([] ++ hpW H77) [(0, .ref x0), (1, .ref x1), (2, .ref x2), (3, .ref x3)] 446 [.ref r77]
                  refine q_aload_n C dX10_text_446 0 rfl ?_
                  obtain ⟨y78, e79, h⟩ := h
                  refine h_get C inX10g (ci := 9) rfl 3 (by decide) fl_X10_58 rfl e79 dX10_text_447 ?_
                  obtain ⟨⟨fs9, hr9⟩, h⟩ := h
                  obtain ⟨c80, s80, hc80, hs80, h⟩ := h
                  refine p_callVQ C (fun _ h => h) [] (hrec _ _ _ _ _ h) cf_X10_121 im_X10_text se_X10_text (hRv_h (q := (RX10, TX10, 4)) hr9 rfl) rfl ⟨by show _ * (nr + 1) + 1 ≤ _ * (nr + 1 + 1); omega, by show 8 + (4 + 11) + _ * (nr + 1) ≤ _ * (nr + 1 + 1); omega⟩ ⟨by show cells + 1 + c64 + c67 + c68 + c77 + c80 ≤ bc0; omega, by show slots + 4 + s64 + s67 + s68 + s77 + s80 ≤ bs0; omega⟩ List.perm_append_comm (fun H80 : gH => [] ++ hpW H80) (fun _ => List.perm_append_comm) (rest := [.ref r77]) rfl (Nat.le_of_ble_eq_true rfl) dX10_text_450 (fun r80 H80 h => ?_)
                  show Go D E A Q 4 (cells + 1 + c64 + c67 + c68 + c77 + c80) (slots + 4 + s64 + s67 + s68 + s77 + s80) ([] ++ hpW H80) [(0, .ref x0), (1, .ref x1), (2, .ref x2), (3, .ref x3)] 453 [.ref r80, .ref r77]
                  obtain ⟨⟨fs9, hr9⟩, h⟩ := h
                  obtain ⟨c81, s81, hc81, hs81, h⟩ := h
                  refine p_callVQ C (fun _ h => h) [] (chJ4_append_15ec4_ok _ h) cf_X10_106 im_J4_append_15ec4 se_J4_append_15ec4 (hRv_h (q := (RJ4, TJ4, 4)) hr9 rfl) rfl ⟨by show 5 + 1 ≤ _ * (nr + 1 + 1); omega, by show 8 + (2 + 11) + 127 ≤ _ * (nr + 1 + 1); omega⟩ ⟨by show cells + 1 + c64 + c67 + c68 + c77 + c80 + c81 ≤ bc0; omega, by show slots + 4 + s64 + s67 + s68 + s77 + s80 + s81 ≤ bs0; omega⟩ List.perm_append_comm (fun H81 : gH => [] ++ hpW H81) (fun _ => List.perm_append_comm) (rest := []) rfl (Nat.le_of_ble_eq_true rfl) dX10_text_453 (fun r81 H81 h => ?_)
                  show Go D E A Q 4 (cells + 1 + c64 + c67 + c68 + c77 + c80 + c81) (slots + 4 + s64 + s67 + s68 + s77 + s80 + s81) ([] ++ hpW H81) [(0, .ref x0), (1, .ref x1), (2, .ref x2), (3, .ref x3)] 456 [.ref r81]
                  obtain ⟨⟨fs9, hr9⟩, h⟩ := h
                  obtain ⟨c82, s82, hc82, hs82, h⟩ := h
                  refine p_callVQ C (fun _ h => h) [] (chJ4_toString_0e30d_ok _ h) cf_X10_113 im_J4_toString_0e30d se_J4_toString_0e30d (hRv_h (q := (RJ4, TJ4, 4)) hr9 rfl) rfl ⟨by show 5 + 1 ≤ _ * (nr + 1 + 1); omega, by show 8 + (1 + 11) + 151 ≤ _ * (nr + 1 + 1); omega⟩ ⟨by show cells + 1 + c64 + c67 + c68 + c77 + c80 + c81 + c82 ≤ bc0; omega, by show slots + 4 + s64 + s67 + s68 + s77 + s80 + s81 + s82 ≤ bs0; omega⟩ List.perm_append_comm (fun H82 : gH => [] ++ hpW H82) (fun _ => List.perm_append_comm) (rest := []) rfl (Nat.le_of_ble_eq_true rfl) dX10_text_456 (fun r82 H82 h => ?_)
                  show Go D E A Q 4 (cells + 1 + c64 + c67 + c68 + c77 + c80 + c81 + c82) (slots + 4 + s64 + s67 + s68 + s77 + s80 + s81 + s82) ([] ++ hpW H82) [(0, .ref x0), (1, .ref x1), (2, .ref x2), (3, .ref x3)] 459 [.ref r82]
                  refine q_widen (k := bc0) (n := bs0) (by omega) (by omega) ?_
                  exact hret r82 H82 _ _ h dX10_text_459
              · obtain ⟨b1, b2, h⟩ := h
                refine h_new C inJ4g tyJ4_ok cl_X10_103 it_J4 ini_J4 (ci := 11) rfl (fs := [.null, .int 0, .int 0, .int 0]) (by decide) dX10_text_355 ⟨by show cells + 1 ≤ bc0; omega, by show slots + 4 ≤ bs0; omega⟩ (fun q83 g84 => ?_)
                replace h := h q83 g84
                refine q_dup C dX10_text_358 rfl ?_
                obtain ⟨c85, s85, hc85, hs85, h⟩ := h
                refine p_callIV C (fun _ h => h) [] (chJ4_init_da8c8_ok _ h) cf_X10_105 im_J4_init_da8c8 rfl rfl ⟨by show 2 + 1 ≤ _ * (nr + 1 + 1); omega, by show 8 + (1 + 11) + 41 ≤ _ * (nr + 1 + 1); omega⟩ ⟨by show cells + 1 + c85 ≤ bc0; omega, by show slots + 4 + s85 ≤ bs0; omega⟩ List.perm_append_comm (fun H85 : gH => [] ++ hpW H85) (fun _ => List.perm_append_comm) (rest := [.ref q83]) rfl (Nat.le_of_ble_eq_true rfl) dX10_text_359 (fun H85 h => ?_)
                show Go D E A Q 4 (cells + 1 + c85) (slots + 4 + s85) ([] ++ hpW H85) [(0, .ref x0), (1, .ref x1), (2, .ref x2), (3, .ref x3)] 362 [.ref q83]
                refine q_aload_n C dX10_text_362 2 rfl ?_
                refine q_aload_n C dX10_text_363 0 rfl ?_
                obtain ⟨y86, e87, h⟩ := h
                refine h_get C inX10g (ci := 9) rfl 0 (by decide) fl_X10_7 rfl e87 dX10_text_364 ?_
                refine q_bipush C (v := 9) dX10_text_367 (by decide) ?_
                refine q_isub C dX10_text_369 ?_
                obtain ⟨n88, f89, y92, e90, i91, g93, h⟩ := h
                refine h_aldR C 7 rfl rfl e90 i91 g93 dX10_text_370 ?_
                obtain ⟨⟨fs9, hr9⟩, h⟩ := h
                obtain ⟨c94, s94, hc94, hs94, h⟩ := h
                refine p_callVQ C (fun _ h => h) [] (chJ4_append_15ec4_ok _ h) cf_X10_106 im_J4_append_15ec4 se_J4_append_15ec4 (hRv_h (q := (RJ4, TJ4, 4)) hr9 rfl) rfl ⟨by show 5 + 1 ≤ _ * (nr + 1 + 1); omega, by show 8 + (2 + 11) + 127 ≤ _ * (nr + 1 + 1); omega⟩ ⟨by show cells + 1 + c85 + c94 ≤ bc0; omega, by show slots + 4 + s85 + s94 ≤ bs0; omega⟩ List.perm_append_comm (fun H94 : gH => [] ++ hpW H94) (fun _ => List.perm_append_comm) (rest := []) rfl (Nat.le_of_ble_eq_true rfl) dX10_text_371 (fun r94 H94 h => ?_)
                show Go D E A Q 4 (cells + 1 + c85 + c94) (slots + 4 + s85 + s94) ([] ++ hpW H94) [(0, .ref x0), (1, .ref x1), (2, .ref x2), (3, .ref x3)] 374 [.ref r94]
                refine q_aload_n C dX10_text_374 0 rfl ?_
                obtain ⟨y95, e96, h⟩ := h
                refine h_get C inX10g (ci := 9) rfl 2 (by decide) fl_X10_40 rfl e96 dX10_text_375 ?_
                obtain ⟨⟨fs9, hr9⟩, h⟩ := h
                obtain ⟨c97, s97, hc97, hs97, h⟩ := h
                refine p_callVQ C (fun _ h => h) [] (hrec _ _ _ _ _ h) cf_X10_121 im_X10_text se_X10_text (hRv_h (q := (RX10, TX10, 4)) hr9 rfl) rfl ⟨by show _ * (nr + 1) + 1 ≤ _ * (nr + 1 + 1); omega, by show 8 + (4 + 11) + _ * (nr + 1) ≤ _ * (nr + 1 + 1); omega⟩ ⟨by show cells + 1 + c85 + c94 + c97 ≤ bc0; omega, by show slots + 4 + s85 + s94 + s97 ≤ bs0; omega⟩ List.perm_append_comm (fun H97 : gH => [] ++ hpW H97) (fun _ => List.perm_append_comm) (rest := [.ref r94]) rfl (Nat.le_of_ble_eq_true rfl) dX10_text_378 (fun r97 H97 h => ?_)
                show Go D E A Q 4 (cells + 1 + c85 + c94 + c97) (slots + 4 + s85 + s94 + s97) ([] ++ hpW H97) [(0, .ref x0), (1, .ref x1), (2, .ref x2), (3, .ref x3)] 381 [.ref r97, .ref r94]
                obtain ⟨⟨fs9, hr9⟩, h⟩ := h
                obtain ⟨c98, s98, hc98, hs98, h⟩ := h
                refine p_callVQ C (fun _ h => h) [] (chJ4_append_15ec4_ok _ h) cf_X10_106 im_J4_append_15ec4 se_J4_append_15ec4 (hRv_h (q := (RJ4, TJ4, 4)) hr9 rfl) rfl ⟨by show 5 + 1 ≤ _ * (nr + 1 + 1); omega, by show 8 + (2 + 11) + 127 ≤ _ * (nr + 1 + 1); omega⟩ ⟨by show cells + 1 + c85 + c94 + c97 + c98 ≤ bc0; omega, by show slots + 4 + s85 + s94 + s97 + s98 ≤ bs0; omega⟩ List.perm_append_comm (fun H98 : gH => [] ++ hpW H98) (fun _ => List.perm_append_comm) (rest := []) rfl (Nat.le_of_ble_eq_true rfl) dX10_text_381 (fun r98 H98 h => ?_)
                show Go D E A Q 4 (cells + 1 + c85 + c94 + c97 + c98) (slots + 4 + s85 + s94 + s97 + s98) ([] ++ hpW H98) [(0, .ref x0), (1, .ref x1), (2, .ref x2), (3, .ref x3)] 384 [.ref r98]
                refine q_ldcK (i := 25) C (C.strR (i := 25) (Nat.le_of_ble_eq_true rfl)) dX10_text_384 ?_
                obtain ⟨⟨fs9, hr9⟩, h⟩ := h
                obtain ⟨c99, s99, hc99, hs99, h⟩ := h
                refine p_callVQ C (fun _ h => h) [] (chJ4_append_15ec4_ok _ h) cf_X10_106 im_J4_append_15ec4 se_J4_append_15ec4 (hRv_h (q := (RJ4, TJ4, 4)) hr9 rfl) rfl ⟨by show 5 + 1 ≤ _ * (nr + 1 + 1); omega, by show 8 + (2 + 11) + 127 ≤ _ * (nr + 1 + 1); omega⟩ ⟨by show cells + 1 + c85 + c94 + c97 + c98 + c99 ≤ bc0; omega, by show slots + 4 + s85 + s94 + s97 + s98 + s99 ≤ bs0; omega⟩ List.perm_append_comm (fun H99 : gH => [] ++ hpW H99) (fun _ => List.perm_append_comm) (rest := []) rfl (Nat.le_of_ble_eq_true rfl) dX10_text_386 (fun r99 H99 h => ?_)
                show Go D E A Q 4 (cells + 1 + c85 + c94 + c97 + c98 + c99) (slots + 4 + s85 + s94 + s97 + s98 + s99) ([] ++ hpW H99) [(0, .ref x0), (1, .ref x1), (2, .ref x2), (3, .ref x3)] 389 [.ref r99]
                refine q_aload_n C dX10_text_389 0 rfl ?_
                obtain ⟨y100, e101, h⟩ := h
                refine h_get C inX10g (ci := 9) rfl 3 (by decide) fl_X10_58 rfl e101 dX10_text_390 ?_
                obtain ⟨⟨fs9, hr9⟩, h⟩ := h
                obtain ⟨c102, s102, hc102, hs102, h⟩ := h
                refine p_callVQ C (fun _ h => h) [] (hrec _ _ _ _ _ h) cf_X10_121 im_X10_text se_X10_text (hRv_h (q := (RX10, TX10, 4)) hr9 rfl) rfl ⟨by show _ * (nr + 1) + 1 ≤ _ * (nr + 1 + 1); omega, by show 8 + (4 + 11) + _ * (nr + 1) ≤ _ * (nr + 1 + 1); omega⟩ ⟨by show cells + 1 + c85 + c94 + c97 + c98 + c99 + c102 ≤ bc0; omega, by show slots + 4 + s85 + s94 + s97 + s98 + s99 + s102 ≤ bs0; omega⟩ List.perm_append_comm (fun H102 : gH => [] ++ hpW H102) (fun _ => List.perm_append_comm) (rest := [.ref r99]) rfl (Nat.le_of_ble_eq_true rfl) dX10_text_393 (fun r102 H102 h => ?_)
                show Go D E A Q 4 (cells + 1 + c85 + c94 + c97 + c98 + c99 + c102) (slots + 4 + s85 + s94 + s97 + s98 + s99 + s102) ([] ++ hpW H102) [(0, .ref x0), (1, .ref x1), (2, .ref x2), (3, .ref x3)] 396 [.ref r102, .ref r99]
                obtain ⟨⟨fs9, hr9⟩, h⟩ := h
                obtain ⟨c103, s103, hc103, hs103, h⟩ := h
                refine p_callVQ C (fun _ h => h) [] (chJ4_append_15ec4_ok _ h) cf_X10_106 im_J4_append_15ec4 se_J4_append_15ec4 (hRv_h (q := (RJ4, TJ4, 4)) hr9 rfl) rfl ⟨by show 5 + 1 ≤ _ * (nr + 1 + 1); omega, by show 8 + (2 + 11) + 127 ≤ _ * (nr + 1 + 1); omega⟩ ⟨by show cells + 1 + c85 + c94 + c97 + c98 + c99 + c102 + c103 ≤ bc0; omega, by show slots + 4 + s85 + s94 + s97 + s98 + s99 + s102 + s103 ≤ bs0; omega⟩ List.perm_append_comm (fun H103 : gH => [] ++ hpW H103) (fun _ => List.perm_append_comm) (rest := []) rfl (Nat.le_of_ble_eq_true rfl) dX10_text_396 (fun r103 H103 h => ?_)
                show Go D E A Q 4 (cells + 1 + c85 + c94 + c97 + c98 + c99 + c102 + c103) (slots + 4 + s85 + s94 + s97 + s98 + s99 + s102 + s103) ([] ++ hpW H103) [(0, .ref x0), (1, .ref x1), (2, .ref x2), (3, .ref x3)] 399 [.ref r103]
                refine q_ldcK (i := 22) C (C.strR (i := 22) (Nat.le_of_ble_eq_true rfl)) dX10_text_399 ?_
                obtain ⟨⟨fs9, hr9⟩, h⟩ := h
                obtain ⟨c104, s104, hc104, hs104, h⟩ := h
                refine p_callVQ C (fun _ h => h) [] (chJ4_append_15ec4_ok _ h) cf_X10_106 im_J4_append_15ec4 se_J4_append_15ec4 (hRv_h (q := (RJ4, TJ4, 4)) hr9 rfl) rfl ⟨by show 5 + 1 ≤ _ * (nr + 1 + 1); omega, by show 8 + (2 + 11) + 127 ≤ _ * (nr + 1 + 1); omega⟩ ⟨by show cells + 1 + c85 + c94 + c97 + c98 + c99 + c102 + c103 + c104 ≤ bc0; omega, by show slots + 4 + s85 + s94 + s97 + s98 + s99 + s102 + s103 + s104 ≤ bs0; omega⟩ List.perm_append_comm (fun H104 : gH => [] ++ hpW H104) (fun _ => List.perm_append_comm) (rest := []) rfl (Nat.le_of_ble_eq_true rfl) dX10_text_401 (fun r104 H104 h => ?_)
                show Go D E A Q 4 (cells + 1 + c85 + c94 + c97 + c98 + c99 + c102 + c103 + c104) (slots + 4 + s85 + s94 + s97 + s98 + s99 + s102 + s103 + s104) ([] ++ hpW H104) [(0, .ref x0), (1, .ref x1), (2, .ref x2), (3, .ref x3)] 404 [.ref r104]
                obtain ⟨⟨fs9, hr9⟩, h⟩ := h
                obtain ⟨c105, s105, hc105, hs105, h⟩ := h
                refine p_callVQ C (fun _ h => h) [] (chJ4_toString_0e30d_ok _ h) cf_X10_113 im_J4_toString_0e30d se_J4_toString_0e30d (hRv_h (q := (RJ4, TJ4, 4)) hr9 rfl) rfl ⟨by show 5 + 1 ≤ _ * (nr + 1 + 1); omega, by show 8 + (1 + 11) + 151 ≤ _ * (nr + 1 + 1); omega⟩ ⟨by show cells + 1 + c85 + c94 + c97 + c98 + c99 + c102 + c103 + c104 + c105 ≤ bc0; omega, by show slots + 4 + s85 + s94 + s97 + s98 + s99 + s102 + s103 + s104 + s105 ≤ bs0; omega⟩ List.perm_append_comm (fun H105 : gH => [] ++ hpW H105) (fun _ => List.perm_append_comm) (rest := []) rfl (Nat.le_of_ble_eq_true rfl) dX10_text_404 (fun r105 H105 h => ?_)
                show Go D E A Q 4 (cells + 1 + c85 + c94 + c97 + c98 + c99 + c102 + c103 + c104 + c105) (slots + 4 + s85 + s94 + s97 + s98 + s99 + s102 + s103 + s104 + s105) ([] ++ hpW H105) [(0, .ref x0), (1, .ref x1), (2, .ref x2), (3, .ref x3)] 407 [.ref r105]
                refine q_widen (k := bc0) (n := bs0) (by omega) (by omega) ?_
                exact hret r105 H105 _ _ h dX10_text_407
            · obtain ⟨b1, b2, h⟩ := h
              refine h_new C inJ4g tyJ4_ok cl_X10_103 it_J4 ini_J4 (ci := 11) rfl (fs := [.null, .int 0, .int 0, .int 0]) (by decide) dX10_text_283 ⟨by show cells + 1 ≤ bc0; omega, by show slots + 4 ≤ bs0; omega⟩ (fun q106 g107 => ?_)
              replace h := h q106 g107
              refine q_dup C dX10_text_286 rfl ?_
              obtain ⟨c108, s108, hc108, hs108, h⟩ := h
              refine p_callIV C (fun _ h => h) [] (chJ4_init_da8c8_ok _ h) cf_X10_105 im_J4_init_da8c8 rfl rfl ⟨by show 2 + 1 ≤ _ * (nr + 1 + 1); omega, by show 8 + (1 + 11) + 41 ≤ _ * (nr + 1 + 1); omega⟩ ⟨by show cells + 1 + c108 ≤ bc0; omega, by show slots + 4 + s108 ≤ bs0; omega⟩ List.perm_append_comm (fun H108 : gH => [] ++ hpW H108) (fun _ => List.perm_append_comm) (rest := [.ref q106]) rfl (Nat.le_of_ble_eq_true rfl) dX10_text_287 (fun H108 h => ?_)
              show Go D E A Q 4 (cells + 1 + c108) (slots + 4 + s108) ([] ++ hpW H108) [(0, .ref x0), (1, .ref x1), (2, .ref x2), (3, .ref x3)] 290 [.ref q106]
              refine q_ldcK (i := 24) C (C.strR (i := 24) (Nat.le_of_ble_eq_true rfl)) dX10_text_290 ?_
              obtain ⟨⟨fs9, hr9⟩, h⟩ := h
              obtain ⟨c109, s109, hc109, hs109, h⟩ := h
              refine p_callVQ C (fun _ h => h) [] (chJ4_append_15ec4_ok _ h) cf_X10_106 im_J4_append_15ec4 se_J4_append_15ec4 (hRv_h (q := (RJ4, TJ4, 4)) hr9 rfl) rfl ⟨by show 5 + 1 ≤ _ * (nr + 1 + 1); omega, by show 8 + (2 + 11) + 127 ≤ _ * (nr + 1 + 1); omega⟩ ⟨by show cells + 1 + c108 + c109 ≤ bc0; omega, by show slots + 4 + s108 + s109 ≤ bs0; omega⟩ List.perm_append_comm (fun H109 : gH => [] ++ hpW H109) (fun _ => List.perm_append_comm) (rest := []) rfl (Nat.le_of_ble_eq_true rfl) dX10_text_292 (fun r109 H109 h => ?_)
              show Go D E A Q 4 (cells + 1 + c108 + c109) (slots + 4 + s108 + s109) ([] ++ hpW H109) [(0, .ref x0), (1, .ref x1), (2, .ref x2), (3, .ref x3)] 295 [.ref r109]
              refine q_aload_n C dX10_text_295 0 rfl ?_
              obtain ⟨y110, e111, h⟩ := h
              refine h_get C inX10g (ci := 9) rfl 2 (by decide) fl_X10_40 rfl e111 dX10_text_296 ?_
              obtain ⟨⟨fs9, hr9⟩, h⟩ := h
              obtain ⟨c112, s112, hc112, hs112, h⟩ := h
              refine p_callVQ C (fun _ h => h) [] (hrec _ _ _ _ _ h) cf_X10_121 im_X10_text se_X10_text (hRv_h (q := (RX10, TX10, 4)) hr9 rfl) rfl ⟨by show _ * (nr + 1) + 1 ≤ _ * (nr + 1 + 1); omega, by show 8 + (4 + 11) + _ * (nr + 1) ≤ _ * (nr + 1 + 1); omega⟩ ⟨by show cells + 1 + c108 + c109 + c112 ≤ bc0; omega, by show slots + 4 + s108 + s109 + s112 ≤ bs0; omega⟩ List.perm_append_comm (fun H112 : gH => [] ++ hpW H112) (fun _ => List.perm_append_comm) (rest := [.ref r109]) rfl (Nat.le_of_ble_eq_true rfl) dX10_text_299 (fun r112 H112 h => ?_)
              show Go D E A Q 4 (cells + 1 + c108 + c109 + c112) (slots + 4 + s108 + s109 + s112) ([] ++ hpW H112) [(0, .ref x0), (1, .ref x1), (2, .ref x2), (3, .ref x3)] 302 [.ref r112, .ref r109]
              obtain ⟨⟨fs9, hr9⟩, h⟩ := h
              obtain ⟨c113, s113, hc113, hs113, h⟩ := h
              refine p_callVQ C (fun _ h => h) [] (chJ4_append_15ec4_ok _ h) cf_X10_106 im_J4_append_15ec4 se_J4_append_15ec4 (hRv_h (q := (RJ4, TJ4, 4)) hr9 rfl) rfl ⟨by show 5 + 1 ≤ _ * (nr + 1 + 1); omega, by show 8 + (2 + 11) + 127 ≤ _ * (nr + 1 + 1); omega⟩ ⟨by show cells + 1 + c108 + c109 + c112 + c113 ≤ bc0; omega, by show slots + 4 + s108 + s109 + s112 + s113 ≤ bs0; omega⟩ List.perm_append_comm (fun H113 : gH => [] ++ hpW H113) (fun _ => List.perm_append_comm) (rest := []) rfl (Nat.le_of_ble_eq_true rfl) dX10_text_302 (fun r113 H113 h => ?_)
              show Go D E A Q 4 (cells + 1 + c108 + c109 + c112 + c113) (slots + 4 + s108 + s109 + s112 + s113) ([] ++ hpW H113) [(0, .ref x0), (1, .ref x1), (2, .ref x2), (3, .ref x3)] 305 [.ref r113]
              refine q_ldcK (i := 22) C (C.strR (i := 22) (Nat.le_of_ble_eq_true rfl)) dX10_text_305 ?_
              obtain ⟨⟨fs9, hr9⟩, h⟩ := h
              obtain ⟨c114, s114, hc114, hs114, h⟩ := h
              refine p_callVQ C (fun _ h => h) [] (chJ4_append_15ec4_ok _ h) cf_X10_106 im_J4_append_15ec4 se_J4_append_15ec4 (hRv_h (q := (RJ4, TJ4, 4)) hr9 rfl) rfl ⟨by show 5 + 1 ≤ _ * (nr + 1 + 1); omega, by show 8 + (2 + 11) + 127 ≤ _ * (nr + 1 + 1); omega⟩ ⟨by show cells + 1 + c108 + c109 + c112 + c113 + c114 ≤ bc0; omega, by show slots + 4 + s108 + s109 + s112 + s113 + s114 ≤ bs0; omega⟩ List.perm_append_comm (fun H114 : gH => [] ++ hpW H114) (fun _ => List.perm_append_comm) (rest := []) rfl (Nat.le_of_ble_eq_true rfl) dX10_text_307 (fun r114 H114 h => ?_)
              show Go D E A Q 4 (cells + 1 + c108 + c109 + c112 + c113 + c114) (slots + 4 + s108 + s109 + s112 + s113 + s114) ([] ++ hpW H114) [(0, .ref x0), (1, .ref x1), (2, .ref x2), (3, .ref x3)] 310 [.ref r114]
              refine q_aload_n C dX10_text_310 2 rfl ?_
              refine q_aload_n C dX10_text_311 0 rfl ?_
              obtain ⟨y115, e116, h⟩ := h
              refine h_get C inX10g (ci := 9) rfl 0 (by decide) fl_X10_7 rfl e116 dX10_text_312 ?_
              refine q_bipush C (v := 9) dX10_text_315 (by decide) ?_
              refine q_isub C dX10_text_317 ?_
              obtain ⟨n117, f118, y121, e119, i120, g122, h⟩ := h
              refine h_aldR C 7 rfl rfl e119 i120 g122 dX10_text_318 ?_
              obtain ⟨⟨fs9, hr9⟩, h⟩ := h
              obtain ⟨c123, s123, hc123, hs123, h⟩ := h
              refine p_callVQ C (fun _ h => h) [] (chJ4_append_15ec4_ok _ h) cf_X10_106 im_J4_append_15ec4 se_J4_append_15ec4 (hRv_h (q := (RJ4, TJ4, 4)) hr9 rfl) rfl ⟨by show 5 + 1 ≤ _ * (nr + 1 + 1); omega, by show 8 + (2 + 11) + 127 ≤ _ * (nr + 1 + 1); omega⟩ ⟨by show cells + 1 + c108 + c109 + c112 + c113 + c114 + c123 ≤ bc0; omega, by show slots + 4 + s108 + s109 + s112 + s113 + s114 + s123 ≤ bs0; omega⟩ List.perm_append_comm (fun H123 : gH => [] ++ hpW H123) (fun _ => List.perm_append_comm) (rest := []) rfl (Nat.le_of_ble_eq_true rfl) dX10_text_319 (fun r123 H123 h => ?_)
              show Go D E A Q 4 (cells + 1 + c108 + c109 + c112 + c113 + c114 + c123) (slots + 4 + s108 + s109 + s112 + s113 + s114 + s123) ([] ++ hpW H123) [(0, .ref x0), (1, .ref x1), (2, .ref x2), (3, .ref x3)] 322 [.ref r123]
              refine q_ldcK (i := 24) C (C.strR (i := 24) (Nat.le_of_ble_eq_true rfl)) dX10_text_322 ?_
              obtain ⟨⟨fs9, hr9⟩, h⟩ := h
              obtain ⟨c124, s124, hc124, hs124, h⟩ := h
              refine p_callVQ C (fun _ h => h) [] (chJ4_append_15ec4_ok _ h) cf_X10_106 im_J4_append_15ec4 se_J4_append_15ec4 (hRv_h (q := (RJ4, TJ4, 4)) hr9 rfl) rfl ⟨by show 5 + 1 ≤ _ * (nr + 1 + 1); omega, by show 8 + (2 + 11) + 127 ≤ _ * (nr + 1 + 1); omega⟩ ⟨by show cells + 1 + c108 + c109 + c112 + c113 + c114 + c123 + c124 ≤ bc0; omega, by show slots + 4 + s108 + s109 + s112 + s113 + s114 + s123 + s124 ≤ bs0; omega⟩ List.perm_append_comm (fun H124 : gH => [] ++ hpW H124) (fun _ => List.perm_append_comm) (rest := []) rfl (Nat.le_of_ble_eq_true rfl) dX10_text_324 (fun r124 H124 h => ?_)
              show Go D E A Q 4 (cells + 1 + c108 + c109 + c112 + c113 + c114 + c123 + c124) (slots + 4 + s108 + s109 + s112 + s113 + s114 + s123 + s124) ([] ++ hpW H124) [(0, .ref x0), (1, .ref x1), (2, .ref x2), (3, .ref x3)] 327 [.ref r124]
              refine q_aload_n C dX10_text_327 0 rfl ?_
              obtain ⟨y125, e126, h⟩ := h
              refine h_get C inX10g (ci := 9) rfl 3 (by decide) fl_X10_58 rfl e126 dX10_text_328 ?_
              obtain ⟨⟨fs9, hr9⟩, h⟩ := h
              obtain ⟨c127, s127, hc127, hs127, h⟩ := h
              refine p_callVQ C (fun _ h => h) [] (hrec _ _ _ _ _ h) cf_X10_121 im_X10_text se_X10_text (hRv_h (q := (RX10, TX10, 4)) hr9 rfl) rfl ⟨by show _ * (nr + 1) + 1 ≤ _ * (nr + 1 + 1); omega, by show 8 + (4 + 11) + _ * (nr + 1) ≤ _ * (nr + 1 + 1); omega⟩ ⟨by show cells + 1 + c108 + c109 + c112 + c113 + c114 + c123 + c124 + c127 ≤ bc0; omega, by show slots + 4 + s108 + s109 + s112 + s113 + s114 + s123 + s124 + s127 ≤ bs0; omega⟩ List.perm_append_comm (fun H127 : gH => [] ++ hpW H127) (fun _ => List.perm_append_comm) (rest := [.ref r124]) rfl (Nat.le_of_ble_eq_true rfl) dX10_text_331 (fun r127 H127 h => ?_)
              show Go D E A Q 4 (cells + 1 + c108 + c109 + c112 + c113 + c114 + c123 + c124 + c127) (slots + 4 + s108 + s109 + s112 + s113 + s114 + s123 + s124 + s127) ([] ++ hpW H127) [(0, .ref x0), (1, .ref x1), (2, .ref x2), (3, .ref x3)] 334 [.ref r127, .ref r124]
              obtain ⟨⟨fs9, hr9⟩, h⟩ := h
              obtain ⟨c128, s128, hc128, hs128, h⟩ := h
              refine p_callVQ C (fun _ h => h) [] (chJ4_append_15ec4_ok _ h) cf_X10_106 im_J4_append_15ec4 se_J4_append_15ec4 (hRv_h (q := (RJ4, TJ4, 4)) hr9 rfl) rfl ⟨by show 5 + 1 ≤ _ * (nr + 1 + 1); omega, by show 8 + (2 + 11) + 127 ≤ _ * (nr + 1 + 1); omega⟩ ⟨by show cells + 1 + c108 + c109 + c112 + c113 + c114 + c123 + c124 + c127 + c128 ≤ bc0; omega, by show slots + 4 + s108 + s109 + s112 + s113 + s114 + s123 + s124 + s127 + s128 ≤ bs0; omega⟩ List.perm_append_comm (fun H128 : gH => [] ++ hpW H128) (fun _ => List.perm_append_comm) (rest := []) rfl (Nat.le_of_ble_eq_true rfl) dX10_text_334 (fun r128 H128 h => ?_)
              show Go D E A Q 4 (cells + 1 + c108 + c109 + c112 + c113 + c114 + c123 + c124 + c127 + c128) (slots + 4 + s108 + s109 + s112 + s113 + s114 + s123 + s124 + s127 + s128) ([] ++ hpW H128) [(0, .ref x0), (1, .ref x1), (2, .ref x2), (3, .ref x3)] 337 [.ref r128]
              refine q_ldcK (i := 22) C (C.strR (i := 22) (Nat.le_of_ble_eq_true rfl)) dX10_text_337 ?_
              obtain ⟨⟨fs9, hr9⟩, h⟩ := h
              obtain ⟨c129, s129, hc129, hs129, h⟩ := h
              refine p_callVQ C (fun _ h => h) [] (chJ4_append_15ec4_ok _ h) cf_X10_106 im_J4_append_15ec4 se_J4_append_15ec4 (hRv_h (q := (RJ4, TJ4, 4)) hr9 rfl) rfl ⟨by show 5 + 1 ≤ _ * (nr + 1 + 1); omega, by show 8 + (2 + 11) + 127 ≤ _ * (nr + 1 + 1); omega⟩ ⟨by show cells + 1 + c108 + c109 + c112 + c113 + c114 + c123 + c124 + c127 + c128 + c129 ≤ bc0; omega, by show slots + 4 + s108 + s109 + s112 + s113 + s114 + s123 + s124 + s127 + s128 + s129 ≤ bs0; omega⟩ List.perm_append_comm (fun H129 : gH => [] ++ hpW H129) (fun _ => List.perm_append_comm) (rest := []) rfl (Nat.le_of_ble_eq_true rfl) dX10_text_339 (fun r129 H129 h => ?_)
              show Go D E A Q 4 (cells + 1 + c108 + c109 + c112 + c113 + c114 + c123 + c124 + c127 + c128 + c129) (slots + 4 + s108 + s109 + s112 + s113 + s114 + s123 + s124 + s127 + s128 + s129) ([] ++ hpW H129) [(0, .ref x0), (1, .ref x1), (2, .ref x2), (3, .ref x3)] 342 [.ref r129]
              obtain ⟨⟨fs9, hr9⟩, h⟩ := h
              obtain ⟨c130, s130, hc130, hs130, h⟩ := h
              refine p_callVQ C (fun _ h => h) [] (chJ4_toString_0e30d_ok _ h) cf_X10_113 im_J4_toString_0e30d se_J4_toString_0e30d (hRv_h (q := (RJ4, TJ4, 4)) hr9 rfl) rfl ⟨by show 5 + 1 ≤ _ * (nr + 1 + 1); omega, by show 8 + (1 + 11) + 151 ≤ _ * (nr + 1 + 1); omega⟩ ⟨by show cells + 1 + c108 + c109 + c112 + c113 + c114 + c123 + c124 + c127 + c128 + c129 + c130 ≤ bc0; omega, by show slots + 4 + s108 + s109 + s112 + s113 + s114 + s123 + s124 + s127 + s128 + s129 + s130 ≤ bs0; omega⟩ List.perm_append_comm (fun H130 : gH => [] ++ hpW H130) (fun _ => List.perm_append_comm) (rest := []) rfl (Nat.le_of_ble_eq_true rfl) dX10_text_342 (fun r130 H130 h => ?_)
              show Go D E A Q 4 (cells + 1 + c108 + c109 + c112 + c113 + c114 + c123 + c124 + c127 + c128 + c129 + c130) (slots + 4 + s108 + s109 + s112 + s113 + s114 + s123 + s124 + s127 + s128 + s129 + s130) ([] ++ hpW H130) [(0, .ref x0), (1, .ref x1), (2, .ref x2), (3, .ref x3)] 345 [.ref r130]
              refine q_widen (k := bc0) (n := bs0) (by omega) (by omega) ?_
              exact hret r130 H130 _ _ h dX10_text_345
          · obtain ⟨b1, b2, h⟩ := h
            refine h_new C inJ4g tyJ4_ok cl_X10_103 it_J4 ini_J4 (ci := 11) rfl (fs := [.null, .int 0, .int 0, .int 0]) (by decide) dX10_text_243 ⟨by show cells + 1 ≤ bc0; omega, by show slots + 4 ≤ bs0; omega⟩ (fun q131 g132 => ?_)
            replace h := h q131 g132
            refine q_dup C dX10_text_246 rfl ?_
            obtain ⟨c133, s133, hc133, hs133, h⟩ := h
            refine p_callIV C (fun _ h => h) [] (chJ4_init_da8c8_ok _ h) cf_X10_105 im_J4_init_da8c8 rfl rfl ⟨by show 2 + 1 ≤ _ * (nr + 1 + 1); omega, by show 8 + (1 + 11) + 41 ≤ _ * (nr + 1 + 1); omega⟩ ⟨by show cells + 1 + c133 ≤ bc0; omega, by show slots + 4 + s133 ≤ bs0; omega⟩ List.perm_append_comm (fun H133 : gH => [] ++ hpW H133) (fun _ => List.perm_append_comm) (rest := [.ref q131]) rfl (Nat.le_of_ble_eq_true rfl) dX10_text_247 (fun H133 h => ?_)
            show Go D E A Q 4 (cells + 1 + c133) (slots + 4 + s133) ([] ++ hpW H133) [(0, .ref x0), (1, .ref x1), (2, .ref x2), (3, .ref x3)] 250 [.ref q131]
            refine q_ldcK (i := 23) C (C.strR (i := 23) (Nat.le_of_ble_eq_true rfl)) dX10_text_250 ?_
            obtain ⟨⟨fs9, hr9⟩, h⟩ := h
            obtain ⟨c134, s134, hc134, hs134, h⟩ := h
            refine p_callVQ C (fun _ h => h) [] (chJ4_append_15ec4_ok _ h) cf_X10_106 im_J4_append_15ec4 se_J4_append_15ec4 (hRv_h (q := (RJ4, TJ4, 4)) hr9 rfl) rfl ⟨by show 5 + 1 ≤ _ * (nr + 1 + 1); omega, by show 8 + (2 + 11) + 127 ≤ _ * (nr + 1 + 1); omega⟩ ⟨by show cells + 1 + c133 + c134 ≤ bc0; omega, by show slots + 4 + s133 + s134 ≤ bs0; omega⟩ List.perm_append_comm (fun H134 : gH => [] ++ hpW H134) (fun _ => List.perm_append_comm) (rest := []) rfl (Nat.le_of_ble_eq_true rfl) dX10_text_252 (fun r134 H134 h => ?_)
            show Go D E A Q 4 (cells + 1 + c133 + c134) (slots + 4 + s133 + s134) ([] ++ hpW H134) [(0, .ref x0), (1, .ref x1), (2, .ref x2), (3, .ref x3)] 255 [.ref r134]
            refine q_aload_n C dX10_text_255 0 rfl ?_
            obtain ⟨y135, e136, h⟩ := h
            refine h_get C inX10g (ci := 9) rfl 2 (by decide) fl_X10_40 rfl e136 dX10_text_256 ?_
            obtain ⟨⟨fs9, hr9⟩, h⟩ := h
            obtain ⟨c137, s137, hc137, hs137, h⟩ := h
            refine p_callVQ C (fun _ h => h) [] (hrec _ _ _ _ _ h) cf_X10_121 im_X10_text se_X10_text (hRv_h (q := (RX10, TX10, 4)) hr9 rfl) rfl ⟨by show _ * (nr + 1) + 1 ≤ _ * (nr + 1 + 1); omega, by show 8 + (4 + 11) + _ * (nr + 1) ≤ _ * (nr + 1 + 1); omega⟩ ⟨by show cells + 1 + c133 + c134 + c137 ≤ bc0; omega, by show slots + 4 + s133 + s134 + s137 ≤ bs0; omega⟩ List.perm_append_comm (fun H137 : gH => [] ++ hpW H137) (fun _ => List.perm_append_comm) (rest := [.ref r134]) rfl (Nat.le_of_ble_eq_true rfl) dX10_text_259 (fun r137 H137 h => ?_)
            show Go D E A Q 4 (cells + 1 + c133 + c134 + c137) (slots + 4 + s133 + s134 + s137) ([] ++ hpW H137) [(0, .ref x0), (1, .ref x1), (2, .ref x2), (3, .ref x3)] 262 [.ref r137, .ref r134]
            obtain ⟨⟨fs9, hr9⟩, h⟩ := h
            obtain ⟨c138, s138, hc138, hs138, h⟩ := h
            refine p_callVQ C (fun _ h => h) [] (chJ4_append_15ec4_ok _ h) cf_X10_106 im_J4_append_15ec4 se_J4_append_15ec4 (hRv_h (q := (RJ4, TJ4, 4)) hr9 rfl) rfl ⟨by show 5 + 1 ≤ _ * (nr + 1 + 1); omega, by show 8 + (2 + 11) + 127 ≤ _ * (nr + 1 + 1); omega⟩ ⟨by show cells + 1 + c133 + c134 + c137 + c138 ≤ bc0; omega, by show slots + 4 + s133 + s134 + s137 + s138 ≤ bs0; omega⟩ List.perm_append_comm (fun H138 : gH => [] ++ hpW H138) (fun _ => List.perm_append_comm) (rest := []) rfl (Nat.le_of_ble_eq_true rfl) dX10_text_262 (fun r138 H138 h => ?_)
            show Go D E A Q 4 (cells + 1 + c133 + c134 + c137 + c138) (slots + 4 + s133 + s134 + s137 + s138) ([] ++ hpW H138) [(0, .ref x0), (1, .ref x1), (2, .ref x2), (3, .ref x3)] 265 [.ref r138]
            refine q_ldcK (i := 22) C (C.strR (i := 22) (Nat.le_of_ble_eq_true rfl)) dX10_text_265 ?_
            obtain ⟨⟨fs9, hr9⟩, h⟩ := h
            obtain ⟨c139, s139, hc139, hs139, h⟩ := h
            refine p_callVQ C (fun _ h => h) [] (chJ4_append_15ec4_ok _ h) cf_X10_106 im_J4_append_15ec4 se_J4_append_15ec4 (hRv_h (q := (RJ4, TJ4, 4)) hr9 rfl) rfl ⟨by show 5 + 1 ≤ _ * (nr + 1 + 1); omega, by show 8 + (2 + 11) + 127 ≤ _ * (nr + 1 + 1); omega⟩ ⟨by show cells + 1 + c133 + c134 + c137 + c138 + c139 ≤ bc0; omega, by show slots + 4 + s133 + s134 + s137 + s138 + s139 ≤ bs0; omega⟩ List.perm_append_comm (fun H139 : gH => [] ++ hpW H139) (fun _ => List.perm_append_comm) (rest := []) rfl (Nat.le_of_ble_eq_true rfl) dX10_text_267 (fun r139 H139 h => ?_)
            show Go D E A Q 4 (cells + 1 + c133 + c134 + c137 + c138 + c139) (slots + 4 + s133 + s134 + s137 + s138 + s139) ([] ++ hpW H139) [(0, .ref x0), (1, .ref x1), (2, .ref x2), (3, .ref x3)] 270 [.ref r139]
            obtain ⟨⟨fs9, hr9⟩, h⟩ := h
            obtain ⟨c140, s140, hc140, hs140, h⟩ := h
            refine p_callVQ C (fun _ h => h) [] (chJ4_toString_0e30d_ok _ h) cf_X10_113 im_J4_toString_0e30d se_J4_toString_0e30d (hRv_h (q := (RJ4, TJ4, 4)) hr9 rfl) rfl ⟨by show 5 + 1 ≤ _ * (nr + 1 + 1); omega, by show 8 + (1 + 11) + 151 ≤ _ * (nr + 1 + 1); omega⟩ ⟨by show cells + 1 + c133 + c134 + c137 + c138 + c139 + c140 ≤ bc0; omega, by show slots + 4 + s133 + s134 + s137 + s138 + s139 + s140 ≤ bs0; omega⟩ List.perm_append_comm (fun H140 : gH => [] ++ hpW H140) (fun _ => List.perm_append_comm) (rest := []) rfl (Nat.le_of_ble_eq_true rfl) dX10_text_270 (fun r140 H140 h => ?_)
            show Go D E A Q 4 (cells + 1 + c133 + c134 + c137 + c138 + c139 + c140) (slots + 4 + s133 + s134 + s137 + s138 + s139 + s140) ([] ++ hpW H140) [(0, .ref x0), (1, .ref x1), (2, .ref x2), (3, .ref x3)] 273 [.ref r140]
            refine q_widen (k := bc0) (n := bs0) (by omega) (by omega) ?_
            exact hret r140 H140 _ _ h dX10_text_273
        · obtain ⟨b1, b2, h⟩ := h
          refine h_new C inJ4g tyJ4_ok cl_X10_103 it_J4 ini_J4 (ci := 11) rfl (fs := [.null, .int 0, .int 0, .int 0]) (by decide) dX10_text_203 ⟨by show cells + 1 ≤ bc0; omega, by show slots + 4 ≤ bs0; omega⟩ (fun q141 g142 => ?_)
          replace h := h q141 g142
          refine q_dup C dX10_text_206 rfl ?_
          obtain ⟨c143, s143, hc143, hs143, h⟩ := h
          refine p_callIV C (fun _ h => h) [] (chJ4_init_da8c8_ok _ h) cf_X10_105 im_J4_init_da8c8 rfl rfl ⟨by show 2 + 1 ≤ _ * (nr + 1 + 1); omega, by show 8 + (1 + 11) + 41 ≤ _ * (nr + 1 + 1); omega⟩ ⟨by show cells + 1 + c143 ≤ bc0; omega, by show slots + 4 + s143 ≤ bs0; omega⟩ List.perm_append_comm (fun H143 : gH => [] ++ hpW H143) (fun _ => List.perm_append_comm) (rest := [.ref q141]) rfl (Nat.le_of_ble_eq_true rfl) dX10_text_207 (fun H143 h => ?_)
          show Go D E A Q 4 (cells + 1 + c143) (slots + 4 + s143) ([] ++ hpW H143) [(0, .ref x0), (1, .ref x1), (2, .ref x2), (3, .ref x3)] 210 [.ref q141]
          refine q_ldcK (i := 21) C (C.strR (i := 21) (Nat.le_of_ble_eq_true rfl)) dX10_text_210 ?_
          obtain ⟨⟨fs9, hr9⟩, h⟩ := h
          obtain ⟨c144, s144, hc144, hs144, h⟩ := h
          refine p_callVQ C (fun _ h => h) [] (chJ4_append_15ec4_ok _ h) cf_X10_106 im_J4_append_15ec4 se_J4_append_15ec4 (hRv_h (q := (RJ4, TJ4, 4)) hr9 rfl) rfl ⟨by show 5 + 1 ≤ _ * (nr + 1 + 1); omega, by show 8 + (2 + 11) + 127 ≤ _ * (nr + 1 + 1); omega⟩ ⟨by show cells + 1 + c143 + c144 ≤ bc0; omega, by show slots + 4 + s143 + s144 ≤ bs0; omega⟩ List.perm_append_comm (fun H144 : gH => [] ++ hpW H144) (fun _ => List.perm_append_comm) (rest := []) rfl (Nat.le_of_ble_eq_true rfl) dX10_text_212 (fun r144 H144 h => ?_)
          show Go D E A Q 4 (cells + 1 + c143 + c144) (slots + 4 + s143 + s144) ([] ++ hpW H144) [(0, .ref x0), (1, .ref x1), (2, .ref x2), (3, .ref x3)] 215 [.ref r144]
          refine q_aload_n C dX10_text_215 0 rfl ?_
          obtain ⟨y145, e146, h⟩ := h
          refine h_get C inX10g (ci := 9) rfl 2 (by decide) fl_X10_40 rfl e146 dX10_text_216 ?_
          obtain ⟨⟨fs9, hr9⟩, h⟩ := h
          obtain ⟨c147, s147, hc147, hs147, h⟩ := h
          refine p_callVQ C (fun _ h => h) [] (hrec _ _ _ _ _ h) cf_X10_121 im_X10_text se_X10_text (hRv_h (q := (RX10, TX10, 4)) hr9 rfl) rfl ⟨by show _ * (nr + 1) + 1 ≤ _ * (nr + 1 + 1); omega, by show 8 + (4 + 11) + _ * (nr + 1) ≤ _ * (nr + 1 + 1); omega⟩ ⟨by show cells + 1 + c143 + c144 + c147 ≤ bc0; omega, by show slots + 4 + s143 + s144 + s147 ≤ bs0; omega⟩ List.perm_append_comm (fun H147 : gH => [] ++ hpW H147) (fun _ => List.perm_append_comm) (rest := [.ref r144]) rfl (Nat.le_of_ble_eq_true rfl) dX10_text_219 (fun r147 H147 h => ?_)
          show Go D E A Q 4 (cells + 1 + c143 + c144 + c147) (slots + 4 + s143 + s144 + s147) ([] ++ hpW H147) [(0, .ref x0), (1, .ref x1), (2, .ref x2), (3, .ref x3)] 222 [.ref r147, .ref r144]
          obtain ⟨⟨fs9, hr9⟩, h⟩ := h
          obtain ⟨c148, s148, hc148, hs148, h⟩ := h
          refine p_callVQ C (fun _ h => h) [] (chJ4_append_15ec4_ok _ h) cf_X10_106 im_J4_append_15ec4 se_J4_append_15ec4 (hRv_h (q := (RJ4, TJ4, 4)) hr9 rfl) rfl ⟨by show 5 + 1 ≤ _ * (nr + 1 + 1); omega, by show 8 + (2 + 11) + 127 ≤ _ * (nr + 1 + 1); omega⟩ ⟨by show cells + 1 + c143 + c144 + c147 + c148 ≤ bc0; omega, by show slots + 4 + s143 + s144 + s147 + s148 ≤ bs0; omega⟩ List.perm_append_comm (fun H148 : gH => [] ++ hpW H148) (fun _ => List.perm_append_comm) (rest := []) rfl (Nat.le_of_ble_eq_true rfl) dX10_text_222 (fun r148 H148 h => ?_)
          show Go D E A Q 4 (cells + 1 + c143 + c144 + c147 + c148) (slots + 4 + s143 + s144 + s147 + s148) ([] ++ hpW H148) [(0, .ref x0), (1, .ref x1), (2, .ref x2), (3, .ref x3)] 225 [.ref r148]
          refine q_ldcK (i := 22) C (C.strR (i := 22) (Nat.le_of_ble_eq_true rfl)) dX10_text_225 ?_
          obtain ⟨⟨fs9, hr9⟩, h⟩ := h
          obtain ⟨c149, s149, hc149, hs149, h⟩ := h
          refine p_callVQ C (fun _ h => h) [] (chJ4_append_15ec4_ok _ h) cf_X10_106 im_J4_append_15ec4 se_J4_append_15ec4 (hRv_h (q := (RJ4, TJ4, 4)) hr9 rfl) rfl ⟨by show 5 + 1 ≤ _ * (nr + 1 + 1); omega, by show 8 + (2 + 11) + 127 ≤ _ * (nr + 1 + 1); omega⟩ ⟨by show cells + 1 + c143 + c144 + c147 + c148 + c149 ≤ bc0; omega, by show slots + 4 + s143 + s144 + s147 + s148 + s149 ≤ bs0; omega⟩ List.perm_append_comm (fun H149 : gH => [] ++ hpW H149) (fun _ => List.perm_append_comm) (rest := []) rfl (Nat.le_of_ble_eq_true rfl) dX10_text_227 (fun r149 H149 h => ?_)
          show Go D E A Q 4 (cells + 1 + c143 + c144 + c147 + c148 + c149) (slots + 4 + s143 + s144 + s147 + s148 + s149) ([] ++ hpW H149) [(0, .ref x0), (1, .ref x1), (2, .ref x2), (3, .ref x3)] 230 [.ref r149]
          obtain ⟨⟨fs9, hr9⟩, h⟩ := h
          obtain ⟨c150, s150, hc150, hs150, h⟩ := h
          refine p_callVQ C (fun _ h => h) [] (chJ4_toString_0e30d_ok _ h) cf_X10_113 im_J4_toString_0e30d se_J4_toString_0e30d (hRv_h (q := (RJ4, TJ4, 4)) hr9 rfl) rfl ⟨by show 5 + 1 ≤ _ * (nr + 1 + 1); omega, by show 8 + (1 + 11) + 151 ≤ _ * (nr + 1 + 1); omega⟩ ⟨by show cells + 1 + c143 + c144 + c147 + c148 + c149 + c150 ≤ bc0; omega, by show slots + 4 + s143 + s144 + s147 + s148 + s149 + s150 ≤ bs0; omega⟩ List.perm_append_comm (fun H150 : gH => [] ++ hpW H150) (fun _ => List.perm_append_comm) (rest := []) rfl (Nat.le_of_ble_eq_true rfl) dX10_text_230 (fun r150 H150 h => ?_)
          show Go D E A Q 4 (cells + 1 + c143 + c144 + c147 + c148 + c149 + c150) (slots + 4 + s143 + s144 + s147 + s148 + s149 + s150) ([] ++ hpW H150) [(0, .ref x0), (1, .ref x1), (2, .ref x2), (3, .ref x3)] 233 [.ref r150]
          refine q_widen (k := bc0) (n := bs0) (by omega) (by omega) ?_
          exact hret r150 H150 _ _ h dX10_text_233
      · obtain ⟨b1, b2, h⟩ := h
        refine h_new C inJ4g tyJ4_ok cl_X10_103 it_J4 ini_J4 (ci := 11) rfl (fs := [.null, .int 0, .int 0, .int 0]) (by decide) dX10_text_162 ⟨by show cells + 1 ≤ bc0; omega, by show slots + 4 ≤ bs0; omega⟩ (fun q151 g152 => ?_)
        replace h := h q151 g152
        refine q_dup C dX10_text_165 rfl ?_
        obtain ⟨c153, s153, hc153, hs153, h⟩ := h
        refine p_callIV C (fun _ h => h) [] (chJ4_init_da8c8_ok _ h) cf_X10_105 im_J4_init_da8c8 rfl rfl ⟨by show 2 + 1 ≤ _ * (nr + 1 + 1); omega, by show 8 + (1 + 11) + 41 ≤ _ * (nr + 1 + 1); omega⟩ ⟨by show cells + 1 + c153 ≤ bc0; omega, by show slots + 4 + s153 ≤ bs0; omega⟩ List.perm_append_comm (fun H153 : gH => [] ++ hpW H153) (fun _ => List.perm_append_comm) (rest := [.ref q151]) rfl (Nat.le_of_ble_eq_true rfl) dX10_text_166 (fun H153 h => ?_)
        show Go D E A Q 4 (cells + 1 + c153) (slots + 4 + s153) ([] ++ hpW H153) [(0, .ref x0), (1, .ref x1), (2, .ref x2), (3, .ref x3)] 169 [.ref q151]
        refine q_aload_n C dX10_text_169 1 rfl ?_
        refine q_aload_n C dX10_text_170 0 rfl ?_
        obtain ⟨y154, e155, h⟩ := h
        refine h_get C inX10g (ci := 9) rfl 0 (by decide) fl_X10_7 rfl e155 dX10_text_171 ?_
        obtain ⟨n156, f157, y160, e158, i159, g161, h⟩ := h
        refine h_aldR C 7 rfl rfl e158 i159 g161 dX10_text_174 ?_
        obtain ⟨⟨fs9, hr9⟩, h⟩ := h
        obtain ⟨c162, s162, hc162, hs162, h⟩ := h
        refine p_callVQ C (fun _ h => h) [] (chJ4_append_15ec4_ok _ h) cf_X10_106 im_J4_append_15ec4 se_J4_append_15ec4 (hRv_h (q := (RJ4, TJ4, 4)) hr9 rfl) rfl ⟨by show 5 + 1 ≤ _ * (nr + 1 + 1); omega, by show 8 + (2 + 11) + 127 ≤ _ * (nr + 1 + 1); omega⟩ ⟨by show cells + 1 + c153 + c162 ≤ bc0; omega, by show slots + 4 + s153 + s162 ≤ bs0; omega⟩ List.perm_append_comm (fun H162 : gH => [] ++ hpW H162) (fun _ => List.perm_append_comm) (rest := []) rfl (Nat.le_of_ble_eq_true rfl) dX10_text_175 (fun r162 H162 h => ?_)
        show Go D E A Q 4 (cells + 1 + c153 + c162) (slots + 4 + s153 + s162) ([] ++ hpW H162) [(0, .ref x0), (1, .ref x1), (2, .ref x2), (3, .ref x3)] 178 [.ref r162]
        refine q_aload_n C dX10_text_178 0 rfl ?_
        obtain ⟨y163, e164, h⟩ := h
        refine h_get C inX10g (ci := 9) rfl 1 (by decide) fl_X10_13 rfl e164 dX10_text_179 ?_
        obtain ⟨⟨fs9, hr9⟩, h⟩ := h
        obtain ⟨c165, s165, hc165, hs165, h⟩ := h
        refine p_callVQ C (fun _ h => h) [] (chJ4_append_bf812_ok _ h) cf_X10_110 im_J4_append_bf812 se_J4_append_bf812 (hRv_h (q := (RJ4, TJ4, 4)) hr9 rfl) rfl ⟨by show 5 + 1 ≤ _ * (nr + 1 + 1); omega, by show 8 + (2 + 11) + 127 ≤ _ * (nr + 1 + 1); omega⟩ ⟨by show cells + 1 + c153 + c162 + c165 ≤ bc0; omega, by show slots + 4 + s153 + s162 + s165 ≤ bs0; omega⟩ List.perm_append_comm (fun H165 : gH => [] ++ hpW H165) (fun _ => List.perm_append_comm) (rest := []) rfl (Nat.le_of_ble_eq_true rfl) dX10_text_182 (fun r165 H165 h => ?_)
        show Go D E A Q 4 (cells + 1 + c153 + c162 + c165) (slots + 4 + s153 + s162 + s165) ([] ++ hpW H165) [(0, .ref x0), (1, .ref x1), (2, .ref x2), (3, .ref x3)] 185 [.ref r165]
        refine q_ldcK (i := 20) C (C.strR (i := 20) (Nat.le_of_ble_eq_true rfl)) dX10_text_185 ?_
        obtain ⟨⟨fs9, hr9⟩, h⟩ := h
        obtain ⟨c166, s166, hc166, hs166, h⟩ := h
        refine p_callVQ C (fun _ h => h) [] (chJ4_append_15ec4_ok _ h) cf_X10_106 im_J4_append_15ec4 se_J4_append_15ec4 (hRv_h (q := (RJ4, TJ4, 4)) hr9 rfl) rfl ⟨by show 5 + 1 ≤ _ * (nr + 1 + 1); omega, by show 8 + (2 + 11) + 127 ≤ _ * (nr + 1 + 1); omega⟩ ⟨by show cells + 1 + c153 + c162 + c165 + c166 ≤ bc0; omega, by show slots + 4 + s153 + s162 + s165 + s166 ≤ bs0; omega⟩ List.perm_append_comm (fun H166 : gH => [] ++ hpW H166) (fun _ => List.perm_append_comm) (rest := []) rfl (Nat.le_of_ble_eq_true rfl) dX10_text_187 (fun r166 H166 h => ?_)
        show Go D E A Q 4 (cells + 1 + c153 + c162 + c165 + c166) (slots + 4 + s153 + s162 + s165 + s166) ([] ++ hpW H166) [(0, .ref x0), (1, .ref x1), (2, .ref x2), (3, .ref x3)] 190 [.ref r166]
        obtain ⟨⟨fs9, hr9⟩, h⟩ := h
        obtain ⟨c167, s167, hc167, hs167, h⟩ := h
        refine p_callVQ C (fun _ h => h) [] (chJ4_toString_0e30d_ok _ h) cf_X10_113 im_J4_toString_0e30d se_J4_toString_0e30d (hRv_h (q := (RJ4, TJ4, 4)) hr9 rfl) rfl ⟨by show 5 + 1 ≤ _ * (nr + 1 + 1); omega, by show 8 + (1 + 11) + 151 ≤ _ * (nr + 1 + 1); omega⟩ ⟨by show cells + 1 + c153 + c162 + c165 + c166 + c167 ≤ bc0; omega, by show slots + 4 + s153 + s162 + s165 + s166 + s167 ≤ bs0; omega⟩ List.perm_append_comm (fun H167 : gH => [] ++ hpW H167) (fun _ => List.perm_append_comm) (rest := []) rfl (Nat.le_of_ble_eq_true rfl) dX10_text_190 (fun r167 H167 h => ?_)
        show Go D E A Q 4 (cells + 1 + c153 + c162 + c165 + c166 + c167) (slots + 4 + s153 + s162 + s165 + s166 + s167) ([] ++ hpW H167) [(0, .ref x0), (1, .ref x1), (2, .ref x2), (3, .ref x3)] 193 [.ref r167]
        refine q_widen (k := bc0) (n := bs0) (by omega) (by omega) ?_
        exact hret r167 H167 _ _ h dX10_text_193
    · refine q_aload_n C dX10_text_146 1 rfl ?_
      refine q_aload_n C dX10_text_147 0 rfl ?_
      obtain ⟨y168, e169, h⟩ := h
      refine h_get C inX10g (ci := 9) rfl 0 (by decide) fl_X10_7 rfl e169 dX10_text_148 ?_
      obtain ⟨n170, f171, y174, e172, i173, g175, h⟩ := h
      refine h_aldR C 7 rfl rfl e172 i173 g175 dX10_text_151 ?_
      refine q_widen (k := bc0) (n := bs0) (by omega) (by omega) ?_
      exact hret y174 H _ _ h dX10_text_152
  · obtain ⟨b1, b2, h⟩ := h
    refine h_new C inJ4g tyJ4_ok cl_X10_103 it_J4 ini_J4 (ci := 11) rfl (fs := [.null, .int 0, .int 0, .int 0]) (by decide) dX10_text_115 ⟨by show cells + 1 ≤ bc0; omega, by show slots + 4 ≤ bs0; omega⟩ (fun q176 g177 => ?_)
    replace h := h q176 g177
    refine q_dup C dX10_text_118 rfl ?_
    obtain ⟨c178, s178, hc178, hs178, h⟩ := h
    refine p_callIV C (fun _ h => h) [] (chJ4_init_da8c8_ok _ h) cf_X10_105 im_J4_init_da8c8 rfl rfl ⟨by show 2 + 1 ≤ _ * (nr + 1 + 1); omega, by show 8 + (1 + 11) + 41 ≤ _ * (nr + 1 + 1); omega⟩ ⟨by show cells + 1 + c178 ≤ bc0; omega, by show slots + 4 + s178 ≤ bs0; omega⟩ List.perm_append_comm (fun H178 : gH => [] ++ hpW H178) (fun _ => List.perm_append_comm) (rest := [.ref q176]) rfl (Nat.le_of_ble_eq_true rfl) dX10_text_119 (fun H178 h => ?_)
    show Go D E A Q 4 (cells + 1 + c178) (slots + 4 + s178) ([] ++ hpW H178) [(0, .ref x0), (1, .ref x1), (2, .ref x2), (3, .ref x3)] 122 [.ref q176]
    refine q_ldcK (i := 2) C (C.strR (i := 2) (Nat.le_of_ble_eq_true rfl)) dX10_text_122 ?_
    obtain ⟨⟨fs9, hr9⟩, h⟩ := h
    obtain ⟨c179, s179, hc179, hs179, h⟩ := h
    refine p_callVQ C (fun _ h => h) [] (chJ4_append_15ec4_ok _ h) cf_X10_106 im_J4_append_15ec4 se_J4_append_15ec4 (hRv_h (q := (RJ4, TJ4, 4)) hr9 rfl) rfl ⟨by show 5 + 1 ≤ _ * (nr + 1 + 1); omega, by show 8 + (2 + 11) + 127 ≤ _ * (nr + 1 + 1); omega⟩ ⟨by show cells + 1 + c178 + c179 ≤ bc0; omega, by show slots + 4 + s178 + s179 ≤ bs0; omega⟩ List.perm_append_comm (fun H179 : gH => [] ++ hpW H179) (fun _ => List.perm_append_comm) (rest := []) rfl (Nat.le_of_ble_eq_true rfl) dX10_text_124 (fun r179 H179 h => ?_)
    show Go D E A Q 4 (cells + 1 + c178 + c179) (slots + 4 + s178 + s179) ([] ++ hpW H179) [(0, .ref x0), (1, .ref x1), (2, .ref x2), (3, .ref x3)] 127 [.ref r179]
    refine q_aload_n C dX10_text_127 0 rfl ?_
    obtain ⟨y180, e181, h⟩ := h
    refine h_get C inX10g (ci := 9) rfl 1 (by decide) fl_X10_13 rfl e181 dX10_text_128 ?_
    obtain ⟨⟨fs9, hr9⟩, h⟩ := h
    obtain ⟨c182, s182, hc182, hs182, h⟩ := h
    refine p_callVQ C (fun _ h => h) [] (chJ4_append_bf812_ok _ h) cf_X10_110 im_J4_append_bf812 se_J4_append_bf812 (hRv_h (q := (RJ4, TJ4, 4)) hr9 rfl) rfl ⟨by show 5 + 1 ≤ _ * (nr + 1 + 1); omega, by show 8 + (2 + 11) + 127 ≤ _ * (nr + 1 + 1); omega⟩ ⟨by show cells + 1 + c178 + c179 + c182 ≤ bc0; omega, by show slots + 4 + s178 + s179 + s182 ≤ bs0; omega⟩ List.perm_append_comm (fun H182 : gH => [] ++ hpW H182) (fun _ => List.perm_append_comm) (rest := []) rfl (Nat.le_of_ble_eq_true rfl) dX10_text_131 (fun r182 H182 h => ?_)
    show Go D E A Q 4 (cells + 1 + c178 + c179 + c182) (slots + 4 + s178 + s179 + s182) ([] ++ hpW H182) [(0, .ref x0), (1, .ref x1), (2, .ref x2), (3, .ref x3)] 134 [.ref r182]
    obtain ⟨⟨fs9, hr9⟩, h⟩ := h
    obtain ⟨c183, s183, hc183, hs183, h⟩ := h
    refine p_callVQ C (fun _ h => h) [] (chJ4_toString_0e30d_ok _ h) cf_X10_113 im_J4_toString_0e30d se_J4_toString_0e30d (hRv_h (q := (RJ4, TJ4, 4)) hr9 rfl) rfl ⟨by show 5 + 1 ≤ _ * (nr + 1 + 1); omega, by show 8 + (1 + 11) + 151 ≤ _ * (nr + 1 + 1); omega⟩ ⟨by show cells + 1 + c178 + c179 + c182 + c183 ≤ bc0; omega, by show slots + 4 + s178 + s179 + s182 + s183 ≤ bs0; omega⟩ List.perm_append_comm (fun H183 : gH => [] ++ hpW H183) (fun _ => List.perm_append_comm) (rest := []) rfl (Nat.le_of_ble_eq_true rfl) dX10_text_134 (fun r183 H183 h => ?_)
    show Go D E A Q 4 (cells + 1 + c178 + c179 + c182 + c183) (slots + 4 + s178 + s179 + s182 + s183) ([] ++ hpW H183) [(0, .ref x0), (1, .ref x1), (2, .ref x2), (3, .ref x3)] 137 [.ref r183]
    refine q_widen (k := bc0) (n := bs0) (by omega) (by omega) ?_
    exact hret r183 H183 _ _ h dX10_text_137
set_option maxRecDepth 100000 in
set_option maxHeartbeats 4000000 in
theorem bX10_text {D : gD} {E : gE} {A : Nat → Prop} {Q : State → Prop} {nr : Nat} {bc0 bs0 : Nat} (C : CL D E (rmX10_text (nr + 1) bc0 bs0) cX10_text 4 RX10 A) (hrec : ∀ (H : gH) (bc : Nat) (bs : Nat) (p : Nat) (K : Nat → gH → Prop), wX10_text D.2 nr H bc bs p K → CtQ E.2.1 D (gU (zY D.2)) yX10_text cX10_text 4 (.object "java/lang/String") (rmX10_text nr bc bs) [.ref p] ([] ++ hpW H) (fun u : gH => [] ++ hpW u) (fun r u => K r u)) {K : Nat → gH → Prop} (hret : ∀ (r : Nat) (H : gH) (pc : Nat) (ls : List (Nat × Value)), K r H → decode cX10_text pc = .ok (.areturn, 1) → Go D E A Q 4 bc0 bs0 ([] ++ hpW H) ls pc [.ref r]) (cells slots : Nat) (H : gH) (bc : Nat) (bs : Nat) (p : Nat) (hbc : cells + bc ≤ bc0) (hbs : slots + bs ≤ bs0) (h : wX10_text_E (wX10_text D.2 nr) D.2 H bc bs p K) : Go D E A Q 4 cells slots ([] ++ hpW H) [(0, .ref p)] 0 [] := by
  unfold wX10_text_E at h
  refine q_bipush C (v := 7) dX10_text_0 (by decide) ?_
  obtain ⟨b1, b2, h⟩ := h
  refine h_anewO C 7 rfl cl_X10_65 C.hF.2.2.2.2.1.2.2.2.2.2 dX10_text_2 (by decide) (by decide) ⟨by show cells + 1 ≤ bc0; omega, by show slots + (7 : Int32).toNatClampNeg ≤ bs0; omega⟩ (fun q1 g2 => ?_)
  replace h := h q1 g2
  refine q_dup C dX10_text_5 rfl ?_
  refine q_iconst C (v := 0) dX10_text_6 (by decide) ?_
  refine q_ldcK (i := 2) C (C.strR (i := 2) (Nat.le_of_ble_eq_true rfl)) dX10_text_7 ?_
  refine h_astSN C (Nat.le_of_ble_eq_true rfl) (by unfold vp_in; decide) dX10_text_9 ?_
  refine q_dup C dX10_text_10 rfl ?_
  refine q_iconst C (v := 1) dX10_text_11 (by decide) ?_
  refine q_ldcK (i := 3) C (C.strR (i := 3) (Nat.le_of_ble_eq_true rfl)) dX10_text_12 ?_
  refine h_astSN C (Nat.le_of_ble_eq_true rfl) (by unfold vp_in; decide) dX10_text_14 ?_
  refine q_dup C dX10_text_15 rfl ?_
  refine q_iconst C (v := 2) dX10_text_16 (by decide) ?_
  refine q_ldcK (i := 4) C (C.strR (i := 4) (Nat.le_of_ble_eq_true rfl)) dX10_text_17 ?_
  refine h_astSN C (Nat.le_of_ble_eq_true rfl) (by unfold vp_in; decide) dX10_text_19 ?_
  refine q_dup C dX10_text_20 rfl ?_
  refine q_iconst C (v := 3) dX10_text_21 (by decide) ?_
  refine q_ldcK (i := 5) C (C.strR (i := 5) (Nat.le_of_ble_eq_true rfl)) dX10_text_22 ?_
  refine h_astSN C (Nat.le_of_ble_eq_true rfl) (by unfold vp_in; decide) dX10_text_24 ?_
  refine q_dup C dX10_text_25 rfl ?_
  refine q_iconst C (v := 4) dX10_text_26 (by decide) ?_
  refine q_ldcK (i := 6) C (C.strR (i := 6) (Nat.le_of_ble_eq_true rfl)) dX10_text_27 ?_
  refine h_astSN C (Nat.le_of_ble_eq_true rfl) (by unfold vp_in; decide) dX10_text_29 ?_
  refine q_dup C dX10_text_30 rfl ?_
  refine q_iconst C (v := 5) dX10_text_31 (by decide) ?_
  refine q_ldcK (i := 7) C (C.strR (i := 7) (Nat.le_of_ble_eq_true rfl)) dX10_text_32 ?_
  refine h_astSN C (Nat.le_of_ble_eq_true rfl) (by unfold vp_in; decide) dX10_text_34 ?_
  refine q_dup C dX10_text_35 rfl ?_
  refine q_bipush C (v := 6) dX10_text_36 (by decide) ?_
  refine q_ldcK (i := 8) C (C.strR (i := 8) (Nat.le_of_ble_eq_true rfl)) dX10_text_38 ?_
  refine h_astSN C (Nat.le_of_ble_eq_true rfl) (by unfold vp_in; decide) dX10_text_40 ?_
  refine q_astore_n C [(1, .ref q1), (0, .ref p)] dX10_text_41 (by decide) rfl ?_
  refine q_bipush C (v := 6) dX10_text_42 (by decide) ?_
  obtain ⟨b1, b2, h⟩ := h
  refine h_anewO C 7 rfl cl_X10_65 C.hF.2.2.2.2.1.2.2.2.2.2 dX10_text_44 (by decide) (by decide) ⟨by show cells + 1 + 1 ≤ bc0; omega, by show slots + (7 : Int32).toNatClampNeg + (6 : Int32).toNatClampNeg ≤ bs0; omega⟩ (fun q31 g32 => ?_)
  replace h := h q31 g32
  refine q_dup C dX10_text_47 rfl ?_
  refine q_iconst C (v := 0) dX10_text_48 (by decide) ?_
  refine q_ldcK (i := 9) C (C.strR (i := 9) (Nat.le_of_ble_eq_true rfl)) dX10_text_49 ?_
  refine h_astSN C (Nat.le_of_ble_eq_true rfl) (by unfold vp_in; decide) dX10_text_51 ?_
  refine q_dup C dX10_text_52 rfl ?_
  refine q_iconst C (v := 1) dX10_text_53 (by decide) ?_
  refine q_ldcK (i := 10) C (C.strR (i := 10) (Nat.le_of_ble_eq_true rfl)) dX10_text_54 ?_
  refine h_astSN C (Nat.le_of_ble_eq_true rfl) (by unfold vp_in; decide) dX10_text_56 ?_
  refine q_dup C dX10_text_57 rfl ?_
  refine q_iconst C (v := 2) dX10_text_58 (by decide) ?_
  refine q_ldcK (i := 11) C (C.strR (i := 11) (Nat.le_of_ble_eq_true rfl)) dX10_text_59 ?_
  refine h_astSN C (Nat.le_of_ble_eq_true rfl) (by unfold vp_in; decide) dX10_text_61 ?_
  refine q_dup C dX10_text_62 rfl ?_
  refine q_iconst C (v := 3) dX10_text_63 (by decide) ?_
  refine q_ldcK (i := 12) C (C.strR (i := 12) (Nat.le_of_ble_eq_true rfl)) dX10_text_64 ?_
  refine h_astSN C (Nat.le_of_ble_eq_true rfl) (by unfold vp_in; decide) dX10_text_66 ?_
  refine q_dup C dX10_text_67 rfl ?_
  refine q_iconst C (v := 4) dX10_text_68 (by decide) ?_
  refine q_ldcK (i := 13) C (C.strR (i := 13) (Nat.le_of_ble_eq_true rfl)) dX10_text_69 ?_
  refine h_astSN C (Nat.le_of_ble_eq_true rfl) (by unfold vp_in; decide) dX10_text_71 ?_
  refine q_dup C dX10_text_72 rfl ?_
  refine q_iconst C (v := 5) dX10_text_73 (by decide) ?_
  refine q_ldcK (i := 14) C (C.strR (i := 14) (Nat.le_of_ble_eq_true rfl)) dX10_text_74 ?_
  refine h_astSN C (Nat.le_of_ble_eq_true rfl) (by unfold vp_in; decide) dX10_text_76 ?_
  refine q_astore_n C [(2, .ref q31), (1, .ref q1), (0, .ref p)] dX10_text_77 (by decide) rfl ?_
  refine q_iconst C (v := 5) dX10_text_78 (by decide) ?_
  obtain ⟨b1, b2, h⟩ := h
  refine h_anewO C 7 rfl cl_X10_65 C.hF.2.2.2.2.1.2.2.2.2.2 dX10_text_79 (by decide) (by decide) ⟨by show cells + 1 + 1 + 1 ≤ bc0; omega, by show slots + (7 : Int32).toNatClampNeg + (6 : Int32).toNatClampNeg + (5 : Int32).toNatClampNeg ≤ bs0; omega⟩ (fun q57 g58 => ?_)
  replace h := h q57 g58
  refine q_dup C dX10_text_82 rfl ?_
  refine q_iconst C (v := 0) dX10_text_83 (by decide) ?_
  refine q_ldcK (i := 15) C (C.strR (i := 15) (Nat.le_of_ble_eq_true rfl)) dX10_text_84 ?_
  refine h_astSN C (Nat.le_of_ble_eq_true rfl) (by unfold vp_in; decide) dX10_text_86 ?_
  refine q_dup C dX10_text_87 rfl ?_
  refine q_iconst C (v := 1) dX10_text_88 (by decide) ?_
  refine q_ldcK (i := 16) C (C.strR (i := 16) (Nat.le_of_ble_eq_true rfl)) dX10_text_89 ?_
  refine h_astSN C (Nat.le_of_ble_eq_true rfl) (by unfold vp_in; decide) dX10_text_91 ?_
  refine q_dup C dX10_text_92 rfl ?_
  refine q_iconst C (v := 2) dX10_text_93 (by decide) ?_
  refine q_ldcK (i := 17) C (C.strR (i := 17) (Nat.le_of_ble_eq_true rfl)) dX10_text_94 ?_
  refine h_astSN C (Nat.le_of_ble_eq_true rfl) (by unfold vp_in; decide) dX10_text_96 ?_
  refine q_dup C dX10_text_97 rfl ?_
  refine q_iconst C (v := 3) dX10_text_98 (by decide) ?_
  refine q_ldcK (i := 18) C (C.strR (i := 18) (Nat.le_of_ble_eq_true rfl)) dX10_text_99 ?_
  refine h_astSN C (Nat.le_of_ble_eq_true rfl) (by unfold vp_in; decide) dX10_text_101 ?_
  refine q_dup C dX10_text_102 rfl ?_
  refine q_iconst C (v := 4) dX10_text_103 (by decide) ?_
  refine q_ldcK (i := 19) C (C.strR (i := 19) (Nat.le_of_ble_eq_true rfl)) dX10_text_104 ?_
  refine h_astSN C (Nat.le_of_ble_eq_true rfl) (by unfold vp_in; decide) dX10_text_106 ?_
  refine q_astore_n C [(3, .ref q57), (2, .ref q31), (1, .ref q1), (0, .ref p)] dX10_text_107 (by decide) rfl ?_
  refine q_ls [(0, .ref p), (1, .ref q1), (2, .ref q31), (3, .ref q57)] [3, 2, 1, 0] rfl ?_
  exact bX10_text_108 C hrec  hret  (cells + 1 + 1 + 1) (slots + (7 : Int32).toNatClampNeg + (6 : Int32).toNatClampNeg + (5 : Int32).toNatClampNeg) _ _ _ _ _ _ _ (by omega) (by omega) h
theorem cX10_text_ok (l : Launch) {D : gD} : ∀ (d : Nat) (H : gH) (bc : Nat) (bs : Nat) (p : Nat) (K : Nat → gH → Prop), wX10_text D.2 d H bc bs p K → CtQ l D (gU (zY D.2)) yX10_text cX10_text 4 (.object "java/lang/String") (rmX10_text d bc bs) [.ref p] ([] ++ hpW H) (fun u : gH => [] ++ hpW u) (fun r u => K r u) := by
  intro d
  induction d with
  | zero =>
    intro H bc bs p K h
    exact h.elim
  | succ d ih =>
    intro H bc bs p K h
    exact ct_startQ (Or.inl ⟨_, rfl⟩) (by decide +kernel) (Nat.le_of_ble_eq_true rfl) (fun E A Q hE C hret => bX10_text C (by rw [hE]; exact ih) (fun r H pc ls hk hd => hret r H pc ls hk hd) 0 0 _ _ _ _ (by omega) (by omega) h)
