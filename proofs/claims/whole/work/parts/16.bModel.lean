/-! decode rows and block rows, by a program -/
-- ReelOfBoxesModel.writeTurns(II)V : method 35
theorem d_35_0 : decode c_35 0 = .ok (.aload_n 0, 1) := by decide +kernel
theorem d_35_1 : decode c_35 1 = .ok (.iload_n 1, 1) := by decide +kernel
theorem d_35_2 : decode c_35 2 = .ok (.iload_n 2, 1) := by decide +kernel
theorem d_35_3 : decode c_35 3 = .ok (.invokevirtual 92, 3) := by decide +kernel
theorem d_35_6 : decode c_35 6 = .ok (.istore_n 3, 1) := by decide +kernel
theorem d_35_7 : decode c_35 7 = .ok (.aload_n 0, 1) := by decide +kernel
theorem d_35_8 : decode c_35 8 = .ok (.bipush (16), 2) := by decide +kernel
theorem d_35_10 : decode c_35 10 = .ok (.bipush (12), 2) := by decide +kernel
theorem d_35_12 : decode c_35 12 = .ok (.iload_n 3, 1) := by decide +kernel
theorem d_35_13 : decode c_35 13 = .ok (.imul, 1) := by decide +kernel
theorem d_35_14 : decode c_35 14 = .ok (.iadd, 1) := by decide +kernel
theorem d_35_15 : decode c_35 15 = .ok (.ldc 103, 2) := by decide +kernel
theorem d_35_17 : decode c_35 17 = .ok (.invokevirtual 99, 3) := by decide +kernel
theorem d_35_20 : decode c_35 20 = .ok (.aload_n 0, 1) := by decide +kernel
theorem d_35_21 : decode c_35 21 = .ok (.lconst 0, 1) := by decide +kernel
theorem d_35_22 : decode c_35 22 = .ok (.iconst (4), 1) := by decide +kernel
theorem d_35_23 : decode c_35 23 = .ok (.invokevirtual 76, 3) := by decide +kernel
theorem d_35_26 : decode c_35 26 = .ok (.aload_n 0, 1) := by decide +kernel
theorem d_35_27 : decode c_35 27 = .ok (.iload_n 3, 1) := by decide +kernel
theorem d_35_28 : decode c_35 28 = .ok (.i2l, 1) := by decide +kernel
theorem d_35_29 : decode c_35 29 = .ok (.iconst (4), 1) := by decide +kernel
theorem d_35_30 : decode c_35 30 = .ok (.invokevirtual 76, 3) := by decide +kernel
theorem d_35_33 : decode c_35 33 = .ok (.iload_n 3, 1) := by decide +kernel
theorem d_35_34 : decode c_35 34 = .ok (.ifCond .le (28), 3) := by decide +kernel
theorem d_35_37 : decode c_35 37 = .ok (.aload_n 0, 1) := by decide +kernel
theorem d_35_38 : decode c_35 38 = .ok (.lconst 1, 1) := by decide +kernel
theorem d_35_39 : decode c_35 39 = .ok (.iconst (4), 1) := by decide +kernel
theorem d_35_40 : decode c_35 40 = .ok (.invokevirtual 76, 3) := by decide +kernel
theorem d_35_43 : decode c_35 43 = .ok (.aload_n 0, 1) := by decide +kernel
theorem d_35_44 : decode c_35 44 = .ok (.aload_n 0, 1) := by decide +kernel
theorem d_35_45 : decode c_35 45 = .ok (.iload_n 1, 1) := by decide +kernel
theorem d_35_46 : decode c_35 46 = .ok (.iload_n 2, 1) := by decide +kernel
theorem d_35_47 : decode c_35 47 = .ok (.iconst (0), 1) := by decide +kernel
theorem d_35_48 : decode c_35 48 = .ok (.invokevirtual 84, 3) := by decide +kernel
theorem d_35_51 : decode c_35 51 = .ok (.i2l, 1) := by decide +kernel
theorem d_35_52 : decode c_35 52 = .ok (.iconst (4), 1) := by decide +kernel
theorem d_35_53 : decode c_35 53 = .ok (.invokevirtual 76, 3) := by decide +kernel
theorem d_35_56 : decode c_35 56 = .ok (.aload_n 0, 1) := by decide +kernel
theorem d_35_57 : decode c_35 57 = .ok (.lconst 1, 1) := by decide +kernel
theorem d_35_58 : decode c_35 58 = .ok (.iconst (4), 1) := by decide +kernel
theorem d_35_59 : decode c_35 59 = .ok (.invokevirtual 76, 3) := by decide +kernel
theorem d_35_62 : decode c_35 62 = .ok (.iload_n 3, 1) := by decide +kernel
theorem d_35_63 : decode c_35 63 = .ok (.iconst (1), 1) := by decide +kernel
theorem d_35_64 : decode c_35 64 = .ok (.if_icmp .le (41), 3) := by decide +kernel
theorem d_35_67 : decode c_35 67 = .ok (.aload_n 0, 1) := by decide +kernel
theorem d_35_68 : decode c_35 68 = .ok (.iload_n 1, 1) := by decide +kernel
theorem d_35_69 : decode c_35 69 = .ok (.iload_n 2, 1) := by decide +kernel
theorem d_35_70 : decode c_35 70 = .ok (.invokevirtual 80, 3) := by decide +kernel
theorem d_35_73 : decode c_35 73 = .ok (.istore 4, 2) := by decide +kernel
theorem d_35_75 : decode c_35 75 = .ok (.aload_n 0, 1) := by decide +kernel
theorem d_35_76 : decode c_35 76 = .ok (.iload 4, 2) := by decide +kernel
theorem d_35_78 : decode c_35 78 = .ok (.i2l, 1) := by decide +kernel
theorem d_35_79 : decode c_35 79 = .ok (.iconst (4), 1) := by decide +kernel
theorem d_35_80 : decode c_35 80 = .ok (.invokevirtual 76, 3) := by decide +kernel
theorem d_35_83 : decode c_35 83 = .ok (.aload_n 0, 1) := by decide +kernel
theorem d_35_84 : decode c_35 84 = .ok (.aload_n 0, 1) := by decide +kernel
theorem d_35_85 : decode c_35 85 = .ok (.iload_n 1, 1) := by decide +kernel
theorem d_35_86 : decode c_35 86 = .ok (.iload_n 2, 1) := by decide +kernel
theorem d_35_87 : decode c_35 87 = .ok (.iload 4, 2) := by decide +kernel
theorem d_35_89 : decode c_35 89 = .ok (.iconst (1), 1) := by decide +kernel
theorem d_35_90 : decode c_35 90 = .ok (.isub, 1) := by decide +kernel
theorem d_35_91 : decode c_35 91 = .ok (.invokevirtual 84, 3) := by decide +kernel
theorem d_35_94 : decode c_35 94 = .ok (.i2l, 1) := by decide +kernel
theorem d_35_95 : decode c_35 95 = .ok (.iconst (4), 1) := by decide +kernel
theorem d_35_96 : decode c_35 96 = .ok (.invokevirtual 76, 3) := by decide +kernel
theorem d_35_99 : decode c_35 99 = .ok (.aload_n 0, 1) := by decide +kernel
theorem d_35_100 : decode c_35 100 = .ok (.lconst 1, 1) := by decide +kernel
theorem d_35_101 : decode c_35 101 = .ok (.iconst (4), 1) := by decide +kernel
theorem d_35_102 : decode c_35 102 = .ok (.invokevirtual 76, 3) := by decide +kernel
theorem d_35_105 : decode c_35 105 = .ok (.return_, 1) := by decide +kernel
set_option maxRecDepth 4000 in
theorem b_35_0 {mc ms : Nat} {X : Option (Nat × (Nat → Int32))} {T : aj_Tt} {Q : aj_Q} {J : aj_J} (hJ : aj_Cl 1 c_35 (none) false mc ms X T Q J) {o0 : Nat} {x1 : Int32} {x2 : Int32} {Z : aj_Z} {I : aj_I} {G : aj_G} {C : Nat × Nat} (k0 : Z.2.1 o0 = some (.inl 1)) (h0 : T 0 0 30 [.ref o0, .int x1, .int x2] Z I G (fun r Z1 I1 G1 => J 6 [some (.ref o0), some (.int x1), some (.int x2), none, none] (r.toList ++ []) Z1 I1 G1 C)) : J 0 [some (.ref o0), some (.int x1), some (.int x2), none, none] [] Z I G C := by
  refine s_aload_n hJ d_35_0 rfl ?_
  refine s_iload_n hJ d_35_1 rfl ?_
  refine s_iload_n hJ d_35_2 rfl ?_
  exact s_V2 hJ lm_1_92 d_35_3 (Nat.le_of_ble_eq_true rfl) k0 (h0)
set_option maxRecDepth 4000 in
theorem b_35_6 {mc ms : Nat} {X : Option (Nat × (Nat → Int32))} {T : aj_Tt} {Q : aj_Q} {J : aj_J} (hJ : aj_Cl 1 c_35 (none) false mc ms X T Q J) {o0 : Nat} {x1 : Int32} {x2 : Int32} {w3 : Option Value} {w4 : Option Value} {s0 : Int32} {Z : aj_Z} {I : aj_I} {G : aj_G} {C : Nat × Nat} (k0 : Z.2.1 o0 = some (.inl 1)) (h0 : T 0 0 26 [.ref o0, .int (16 + (12 * s0)), .int 1937011555] Z I G (fun r Z1 I1 G1 => J 20 [some (.ref o0), some (.int x1), some (.int x2), some (.int s0), w4] (r.toList ++ []) Z1 I1 G1 C)) : J 6 [some (.ref o0), some (.int x1), some (.int x2), w3, w4] [.int s0] Z I G C := by
  refine s_istore_n hJ d_35_6 (Nat.le_of_ble_eq_true rfl) ?_
  refine s_aload_n hJ d_35_7 rfl ?_
  refine s_bipush (v := 16) hJ d_35_8 (by decide) ?_
  refine s_bipush (v := 12) hJ d_35_10 (by decide) ?_
  refine s_iload_n hJ d_35_12 rfl ?_
  refine s_imul hJ d_35_13 ?_
  refine s_iadd hJ d_35_14 ?_
  refine s_ldc hJ lc_1_103 d_35_15 ?_
  exact s_V2 hJ lm_1_99 d_35_17 (Nat.le_of_ble_eq_true rfl) k0 (h0)
set_option maxRecDepth 4000 in
theorem b_35_20 {mc ms : Nat} {X : Option (Nat × (Nat → Int32))} {T : aj_Tt} {Q : aj_Q} {J : aj_J} (hJ : aj_Cl 1 c_35 (none) false mc ms X T Q J) {o0 : Nat} {x1 : Int32} {x2 : Int32} {x3 : Int32} {w4 : Option Value} {Z : aj_Z} {I : aj_I} {G : aj_G} {C : Nat × Nat} (k0 : Z.2.1 o0 = some (.inl 1)) (h0 : T 0 0 25 [.ref o0, .long 0, .int 4] Z I G (fun r Z1 I1 G1 => J 26 [some (.ref o0), some (.int x1), some (.int x2), some (.int x3), w4] (r.toList ++ []) Z1 I1 G1 C)) : J 20 [some (.ref o0), some (.int x1), some (.int x2), some (.int x3), w4] [] Z I G C := by
  refine s_aload_n hJ d_35_20 rfl ?_
  refine s_lconst_0 hJ d_35_21 ?_
  refine s_iconst_4 hJ d_35_22 ?_
  exact s_V2 hJ lm_1_76 d_35_23 (Nat.le_of_ble_eq_true rfl) k0 (h0)
set_option maxRecDepth 4000 in
theorem b_35_26 {mc ms : Nat} {X : Option (Nat × (Nat → Int32))} {T : aj_Tt} {Q : aj_Q} {J : aj_J} (hJ : aj_Cl 1 c_35 (none) false mc ms X T Q J) {o0 : Nat} {x1 : Int32} {x2 : Int32} {x3 : Int32} {w4 : Option Value} {Z : aj_Z} {I : aj_I} {G : aj_G} {C : Nat × Nat} (k0 : Z.2.1 o0 = some (.inl 1)) (h0 : T 0 0 25 [.ref o0, .long (Int32.toInt64 x3), .int 4] Z I G (fun r Z1 I1 G1 => J 33 [some (.ref o0), some (.int x1), some (.int x2), some (.int x3), w4] (r.toList ++ []) Z1 I1 G1 C)) : J 26 [some (.ref o0), some (.int x1), some (.int x2), some (.int x3), w4] [] Z I G C := by
  refine s_aload_n hJ d_35_26 rfl ?_
  refine s_iload_n hJ d_35_27 rfl ?_
  refine s_i2l hJ d_35_28 ?_
  refine s_iconst_4 hJ d_35_29 ?_
  exact s_V2 hJ lm_1_76 d_35_30 (Nat.le_of_ble_eq_true rfl) k0 (h0)
set_option maxRecDepth 4000 in
theorem b_35_33 {mc ms : Nat} {X : Option (Nat × (Nat → Int32))} {T : aj_Tt} {Q : aj_Q} {J : aj_J} (hJ : aj_Cl 1 c_35 (none) false mc ms X T Q J) {o0 : Nat} {x1 : Int32} {x2 : Int32} {x3 : Int32} {w4 : Option Value} {Z : aj_Z} {I : aj_I} {G : aj_G} {C : Nat × Nat} (h0 : x3 ≤ 0 → J 62 [some (.ref o0), some (.int x1), some (.int x2), some (.int x3), w4] [] Z I G C) (k0 : Z.2.1 o0 = some (.inl 1)) (h1 : ¬ x3 ≤ 0 → T 0 0 25 [.ref o0, .long 1, .int 4] Z I G (fun r Z1 I1 G1 => J 43 [some (.ref o0), some (.int x1), some (.int x2), some (.int x3), w4] (r.toList ++ []) Z1 I1 G1 C)) : J 33 [some (.ref o0), some (.int x1), some (.int x2), some (.int x3), w4] [] Z I G C := by
  refine s_iload_n hJ d_35_33 rfl ?_
  refine s_if_le (tgt := 62) hJ d_35_34 rfl (fun c0 => ?_) (fun c0 => ?_)
  · skip
    exact h0 c0
  · skip
    refine s_aload_n hJ d_35_37 rfl ?_
    refine s_lconst_1 hJ d_35_38 ?_
    refine s_iconst_4 hJ d_35_39 ?_
    exact s_V2 hJ lm_1_76 d_35_40 (Nat.le_of_ble_eq_true rfl) k0 (h1 c0)
set_option maxRecDepth 4000 in
theorem b_35_43 {mc ms : Nat} {X : Option (Nat × (Nat → Int32))} {T : aj_Tt} {Q : aj_Q} {J : aj_J} (hJ : aj_Cl 1 c_35 (none) false mc ms X T Q J) {o0 : Nat} {x1 : Int32} {x2 : Int32} {x3 : Int32} {w4 : Option Value} {Z : aj_Z} {I : aj_I} {G : aj_G} {C : Nat × Nat} (k0 : Z.2.1 o0 = some (.inl 1)) (h0 : T 0 0 28 [.ref o0, .int x1, .int x2, .int 0] Z I G (fun r Z1 I1 G1 => J 51 [some (.ref o0), some (.int x1), some (.int x2), some (.int x3), w4] (r.toList ++ [.ref o0]) Z1 I1 G1 C)) : J 43 [some (.ref o0), some (.int x1), some (.int x2), some (.int x3), w4] [] Z I G C := by
  refine s_aload_n hJ d_35_43 rfl ?_
  refine s_aload_n hJ d_35_44 rfl ?_
  refine s_iload_n hJ d_35_45 rfl ?_
  refine s_iload_n hJ d_35_46 rfl ?_
  refine s_iconst_0 hJ d_35_47 ?_
  exact s_V3 hJ lm_1_84 d_35_48 (Nat.le_of_ble_eq_true rfl) k0 (h0)
set_option maxRecDepth 4000 in
theorem b_35_51 {mc ms : Nat} {X : Option (Nat × (Nat → Int32))} {T : aj_Tt} {Q : aj_Q} {J : aj_J} (hJ : aj_Cl 1 c_35 (none) false mc ms X T Q J) {o0 : Nat} {x1 : Int32} {x2 : Int32} {x3 : Int32} {w4 : Option Value} {s0 : Int32} {s1 : Nat} {Z : aj_Z} {I : aj_I} {G : aj_G} {C : Nat × Nat} (k0 : Z.2.1 s1 = some (.inl 1)) (h0 : T 0 0 25 [.ref s1, .long (Int32.toInt64 s0), .int 4] Z I G (fun r Z1 I1 G1 => J 56 [some (.ref o0), some (.int x1), some (.int x2), some (.int x3), w4] (r.toList ++ []) Z1 I1 G1 C)) : J 51 [some (.ref o0), some (.int x1), some (.int x2), some (.int x3), w4] [.int s0, .ref s1] Z I G C := by
  refine s_i2l hJ d_35_51 ?_
  refine s_iconst_4 hJ d_35_52 ?_
  exact s_V2 hJ lm_1_76 d_35_53 (Nat.le_of_ble_eq_true rfl) k0 (h0)
set_option maxRecDepth 4000 in
theorem b_35_56 {mc ms : Nat} {X : Option (Nat × (Nat → Int32))} {T : aj_Tt} {Q : aj_Q} {J : aj_J} (hJ : aj_Cl 1 c_35 (none) false mc ms X T Q J) {o0 : Nat} {x1 : Int32} {x2 : Int32} {x3 : Int32} {w4 : Option Value} {Z : aj_Z} {I : aj_I} {G : aj_G} {C : Nat × Nat} (k0 : Z.2.1 o0 = some (.inl 1)) (h0 : T 0 0 25 [.ref o0, .long 1, .int 4] Z I G (fun r Z1 I1 G1 => J 62 [some (.ref o0), some (.int x1), some (.int x2), some (.int x3), w4] (r.toList ++ []) Z1 I1 G1 C)) : J 56 [some (.ref o0), some (.int x1), some (.int x2), some (.int x3), w4] [] Z I G C := by
  refine s_aload_n hJ d_35_56 rfl ?_
  refine s_lconst_1 hJ d_35_57 ?_
  refine s_iconst_4 hJ d_35_58 ?_
  exact s_V2 hJ lm_1_76 d_35_59 (Nat.le_of_ble_eq_true rfl) k0 (h0)
set_option maxRecDepth 4000 in
theorem b_35_62 {mc ms : Nat} {X : Option (Nat × (Nat → Int32))} {T : aj_Tt} {Q : aj_Q} {J : aj_J} (hJ : aj_Cl 1 c_35 (none) false mc ms X T Q J) {o0 : Nat} {x1 : Int32} {x2 : Int32} {x3 : Int32} {w4 : Option Value} {Z : aj_Z} {I : aj_I} {G : aj_G} {C : Nat × Nat} (h0 : x3 ≤ 1 → J 105 [some (.ref o0), some (.int x1), some (.int x2), some (.int x3), w4] [] Z I G C) (k0 : Z.2.1 o0 = some (.inl 1)) (h1 : ¬ x3 ≤ 1 → T 0 0 27 [.ref o0, .int x1, .int x2] Z I G (fun r Z1 I1 G1 => J 73 [some (.ref o0), some (.int x1), some (.int x2), some (.int x3), w4] (r.toList ++ []) Z1 I1 G1 C)) : J 62 [some (.ref o0), some (.int x1), some (.int x2), some (.int x3), w4] [] Z I G C := by
  refine s_iload_n hJ d_35_62 rfl ?_
  refine s_iconst_1 hJ d_35_63 ?_
  refine s_icmp_le (tgt := 105) hJ d_35_64 rfl (fun c0 => ?_) (fun c0 => ?_)
  · skip
    exact h0 c0
  · skip
    refine s_aload_n hJ d_35_67 rfl ?_
    refine s_iload_n hJ d_35_68 rfl ?_
    refine s_iload_n hJ d_35_69 rfl ?_
    exact s_V2 hJ lm_1_80 d_35_70 (Nat.le_of_ble_eq_true rfl) k0 (h1 c0)
set_option maxRecDepth 4000 in
theorem b_35_73 {mc ms : Nat} {X : Option (Nat × (Nat → Int32))} {T : aj_Tt} {Q : aj_Q} {J : aj_J} (hJ : aj_Cl 1 c_35 (none) false mc ms X T Q J) {o0 : Nat} {x1 : Int32} {x2 : Int32} {w3 : Option Value} {w4 : Option Value} {s0 : Int32} {Z : aj_Z} {I : aj_I} {G : aj_G} {C : Nat × Nat} (k0 : Z.2.1 o0 = some (.inl 1)) (h0 : T 0 0 25 [.ref o0, .long (Int32.toInt64 s0), .int 4] Z I G (fun r Z1 I1 G1 => J 83 [some (.ref o0), some (.int x1), some (.int x2), (aj_clr w3), some (.int s0)] (r.toList ++ []) Z1 I1 G1 C)) : J 73 [some (.ref o0), some (.int x1), some (.int x2), w3, w4] [.int s0] Z I G C := by
  refine s_istore hJ d_35_73 (Nat.le_of_ble_eq_true rfl) ?_
  refine s_aload_n hJ d_35_75 rfl ?_
  refine s_iload hJ d_35_76 rfl ?_
  refine s_i2l hJ d_35_78 ?_
  refine s_iconst_4 hJ d_35_79 ?_
  exact s_V2 hJ lm_1_76 d_35_80 (Nat.le_of_ble_eq_true rfl) k0 (h0)
set_option maxRecDepth 4000 in
theorem b_35_83 {mc ms : Nat} {X : Option (Nat × (Nat → Int32))} {T : aj_Tt} {Q : aj_Q} {J : aj_J} (hJ : aj_Cl 1 c_35 (none) false mc ms X T Q J) {o0 : Nat} {x1 : Int32} {x2 : Int32} {w3 : Option Value} {x4 : Int32} {Z : aj_Z} {I : aj_I} {G : aj_G} {C : Nat × Nat} (k0 : Z.2.1 o0 = some (.inl 1)) (h0 : T 0 0 28 [.ref o0, .int x1, .int x2, .int (x4 - 1)] Z I G (fun r Z1 I1 G1 => J 94 [some (.ref o0), some (.int x1), some (.int x2), w3, some (.int x4)] (r.toList ++ [.ref o0]) Z1 I1 G1 C)) : J 83 [some (.ref o0), some (.int x1), some (.int x2), w3, some (.int x4)] [] Z I G C := by
  refine s_aload_n hJ d_35_83 rfl ?_
  refine s_aload_n hJ d_35_84 rfl ?_
  refine s_iload_n hJ d_35_85 rfl ?_
  refine s_iload_n hJ d_35_86 rfl ?_
  refine s_iload hJ d_35_87 rfl ?_
  refine s_iconst_1 hJ d_35_89 ?_
  refine s_isub hJ d_35_90 ?_
  exact s_V3 hJ lm_1_84 d_35_91 (Nat.le_of_ble_eq_true rfl) k0 (h0)
set_option maxRecDepth 4000 in
theorem b_35_94 {mc ms : Nat} {X : Option (Nat × (Nat → Int32))} {T : aj_Tt} {Q : aj_Q} {J : aj_J} (hJ : aj_Cl 1 c_35 (none) false mc ms X T Q J) {o0 : Nat} {w1 : Option Value} {w2 : Option Value} {w3 : Option Value} {w4 : Option Value} {s0 : Int32} {s1 : Nat} {Z : aj_Z} {I : aj_I} {G : aj_G} {C : Nat × Nat} (k0 : Z.2.1 s1 = some (.inl 1)) (h0 : T 0 0 25 [.ref s1, .long (Int32.toInt64 s0), .int 4] Z I G (fun r Z1 I1 G1 => J 99 [some (.ref o0), w1, w2, w3, w4] (r.toList ++ []) Z1 I1 G1 C)) : J 94 [some (.ref o0), w1, w2, w3, w4] [.int s0, .ref s1] Z I G C := by
  refine s_i2l hJ d_35_94 ?_
  refine s_iconst_4 hJ d_35_95 ?_
  exact s_V2 hJ lm_1_76 d_35_96 (Nat.le_of_ble_eq_true rfl) k0 (h0)
set_option maxRecDepth 4000 in
theorem b_35_99 {mc ms : Nat} {X : Option (Nat × (Nat → Int32))} {T : aj_Tt} {Q : aj_Q} {J : aj_J} (hJ : aj_Cl 1 c_35 (none) false mc ms X T Q J) {o0 : Nat} {w1 : Option Value} {w2 : Option Value} {w3 : Option Value} {w4 : Option Value} {Z : aj_Z} {I : aj_I} {G : aj_G} {C : Nat × Nat} (k0 : Z.2.1 o0 = some (.inl 1)) (h0 : T 0 0 25 [.ref o0, .long 1, .int 4] Z I G (fun r Z1 I1 G1 => J 105 [some (.ref o0), w1, w2, w3, w4] (r.toList ++ []) Z1 I1 G1 C)) : J 99 [some (.ref o0), w1, w2, w3, w4] [] Z I G C := by
  refine s_aload_n hJ d_35_99 rfl ?_
  refine s_lconst_1 hJ d_35_100 ?_
  refine s_iconst_4 hJ d_35_101 ?_
  exact s_V2 hJ lm_1_76 d_35_102 (Nat.le_of_ble_eq_true rfl) k0 (h0)
set_option maxRecDepth 4000 in
theorem b_35_105 {mc ms : Nat} {X : Option (Nat × (Nat → Int32))} {T : aj_Tt} {Q : aj_Q} {J : aj_J} (hJ : aj_Cl 1 c_35 (none) false mc ms X T Q J) {w0 : Option Value} {w1 : Option Value} {w2 : Option Value} {w3 : Option Value} {w4 : Option Value} {Z : aj_Z} {I : aj_I} {G : aj_G} {C : Nat × Nat} (h0 : Q none Z I G) : J 105 [w0, w1, w2, w3, w4] [] Z I G C := by
  exact s_vret hJ d_35_105 rfl (h0)
-- ReelOfBoxesModel.writeSizes(I)V : method 36
theorem d_36_0 : decode c_36 0 = .ok (.aload_n 0, 1) := by decide +kernel
theorem d_36_1 : decode c_36 1 = .ok (.bipush (20), 2) := by decide +kernel
theorem d_36_3 : decode c_36 3 = .ok (.iconst (4), 1) := by decide +kernel
theorem d_36_4 : decode c_36 4 = .ok (.aload_n 0, 1) := by decide +kernel
theorem d_36_5 : decode c_36 5 = .ok (.getfield 7, 3) := by decide +kernel
theorem d_36_8 : decode c_36 8 = .ok (.iload_n 1, 1) := by decide +kernel
theorem d_36_9 : decode c_36 9 = .ok (.iaload, 1) := by decide +kernel
theorem d_36_10 : decode c_36 10 = .ok (.imul, 1) := by decide +kernel
theorem d_36_11 : decode c_36 11 = .ok (.iadd, 1) := by decide +kernel
theorem d_36_12 : decode c_36 12 = .ok (.ldc 104, 2) := by decide +kernel
theorem d_36_14 : decode c_36 14 = .ok (.invokevirtual 99, 3) := by decide +kernel
theorem d_36_17 : decode c_36 17 = .ok (.aload_n 0, 1) := by decide +kernel
theorem d_36_18 : decode c_36 18 = .ok (.lconst 0, 1) := by decide +kernel
theorem d_36_19 : decode c_36 19 = .ok (.bipush (8), 2) := by decide +kernel
theorem d_36_21 : decode c_36 21 = .ok (.invokevirtual 76, 3) := by decide +kernel
theorem d_36_24 : decode c_36 24 = .ok (.aload_n 0, 1) := by decide +kernel
theorem d_36_25 : decode c_36 25 = .ok (.aload_n 0, 1) := by decide +kernel
theorem d_36_26 : decode c_36 26 = .ok (.getfield 7, 3) := by decide +kernel
theorem d_36_29 : decode c_36 29 = .ok (.iload_n 1, 1) := by decide +kernel
theorem d_36_30 : decode c_36 30 = .ok (.iaload, 1) := by decide +kernel
theorem d_36_31 : decode c_36 31 = .ok (.i2l, 1) := by decide +kernel
theorem d_36_32 : decode c_36 32 = .ok (.iconst (4), 1) := by decide +kernel
theorem d_36_33 : decode c_36 33 = .ok (.invokevirtual 76, 3) := by decide +kernel
theorem d_36_36 : decode c_36 36 = .ok (.iconst (0), 1) := by decide +kernel
theorem d_36_37 : decode c_36 37 = .ok (.istore_n 2, 1) := by decide +kernel
theorem d_36_38 : decode c_36 38 = .ok (.iload_n 2, 1) := by decide +kernel
theorem d_36_39 : decode c_36 39 = .ok (.aload_n 0, 1) := by decide +kernel
theorem d_36_40 : decode c_36 40 = .ok (.getfield 7, 3) := by decide +kernel
theorem d_36_43 : decode c_36 43 = .ok (.iload_n 1, 1) := by decide +kernel
theorem d_36_44 : decode c_36 44 = .ok (.iaload, 1) := by decide +kernel
theorem d_36_45 : decode c_36 45 = .ok (.if_icmp .ge (26), 3) := by decide +kernel
theorem d_36_48 : decode c_36 48 = .ok (.aload_n 0, 1) := by decide +kernel
theorem d_36_49 : decode c_36 49 = .ok (.aload_n 0, 1) := by decide +kernel
theorem d_36_50 : decode c_36 50 = .ok (.getfield 16, 3) := by decide +kernel
theorem d_36_53 : decode c_36 53 = .ok (.bipush (16), 2) := by decide +kernel
theorem d_36_55 : decode c_36 55 = .ok (.iload_n 1, 1) := by decide +kernel
theorem d_36_56 : decode c_36 56 = .ok (.imul, 1) := by decide +kernel
theorem d_36_57 : decode c_36 57 = .ok (.iload_n 2, 1) := by decide +kernel
theorem d_36_58 : decode c_36 58 = .ok (.iadd, 1) := by decide +kernel
theorem d_36_59 : decode c_36 59 = .ok (.iaload, 1) := by decide +kernel
theorem d_36_60 : decode c_36 60 = .ok (.i2l, 1) := by decide +kernel
theorem d_36_61 : decode c_36 61 = .ok (.iconst (4), 1) := by decide +kernel
theorem d_36_62 : decode c_36 62 = .ok (.invokevirtual 76, 3) := by decide +kernel
theorem d_36_65 : decode c_36 65 = .ok (.iinc 2 (1), 3) := by decide +kernel
theorem d_36_68 : decode c_36 68 = .ok (.goto (-30), 3) := by decide +kernel
theorem d_36_71 : decode c_36 71 = .ok (.return_, 1) := by decide +kernel
set_option maxRecDepth 4000 in
theorem b_36_0 {mc ms : Nat} {X : Option (Nat × (Nat → Int32))} {T : aj_Tt} {Q : aj_Q} {J : aj_J} (hJ : aj_Cl 1 c_36 (none) false mc ms X T Q J) {o0 : Nat} {x1 : Int32} {q0 : Nat} {nk1 : Nat} {Z : aj_Z} {I : aj_I} {G : aj_G} {C : Nat × Nat} (k0 : Z.2.1 o0 = some (.inl 1)) (r0 : Z.2.2 o0 1 = .ref q0) (k1 : Z.2.1 q0 = some (.inr (0, nk1))) (h0 : vp_in x1 nk1) (h1 : T 0 0 26 [.ref o0, .int (20 + (4 * (I q0 (Int32.toNatClampNeg x1)))), .int 1937011578] Z I G (fun r Z1 I1 G1 => J 17 [some (.ref o0), some (.int x1), none] (r.toList ++ []) Z1 I1 G1 C)) : J 0 [some (.ref o0), some (.int x1), none] [] Z I G C := by
  refine s_aload_n hJ d_36_0 rfl ?_
  refine s_bipush (v := 20) hJ d_36_1 (by decide) ?_
  refine s_iconst_4 hJ d_36_3 ?_
  refine s_aload_n hJ d_36_4 rfl ?_
  refine s_getr hJ lf_1_7 rfl d_36_5 k0 r0 ?_
  refine s_iload_n hJ d_36_8 rfl ?_
  refine s_iald hJ d_36_9 k1 (h0) ?_
  refine s_imul hJ d_36_10 ?_
  refine s_iadd hJ d_36_11 ?_
  refine s_ldc hJ lc_1_104 d_36_12 ?_
  exact s_V2 hJ lm_1_99 d_36_14 (Nat.le_of_ble_eq_true rfl) k0 (h1)
set_option maxRecDepth 4000 in
theorem b_36_17 {mc ms : Nat} {X : Option (Nat × (Nat → Int32))} {T : aj_Tt} {Q : aj_Q} {J : aj_J} (hJ : aj_Cl 1 c_36 (none) false mc ms X T Q J) {o0 : Nat} {x1 : Int32} {w2 : Option Value} {Z : aj_Z} {I : aj_I} {G : aj_G} {C : Nat × Nat} (k0 : Z.2.1 o0 = some (.inl 1)) (h0 : T 0 0 25 [.ref o0, .long 0, .int 8] Z I G (fun r Z1 I1 G1 => J 24 [some (.ref o0), some (.int x1), w2] (r.toList ++ []) Z1 I1 G1 C)) : J 17 [some (.ref o0), some (.int x1), w2] [] Z I G C := by
  refine s_aload_n hJ d_36_17 rfl ?_
  refine s_lconst_0 hJ d_36_18 ?_
  refine s_bipush (v := 8) hJ d_36_19 (by decide) ?_
  exact s_V2 hJ lm_1_76 d_36_21 (Nat.le_of_ble_eq_true rfl) k0 (h0)
set_option maxRecDepth 4000 in
theorem b_36_24 {mc ms : Nat} {X : Option (Nat × (Nat → Int32))} {T : aj_Tt} {Q : aj_Q} {J : aj_J} (hJ : aj_Cl 1 c_36 (none) false mc ms X T Q J) {o0 : Nat} {x1 : Int32} {w2 : Option Value} {q0 : Nat} {nk1 : Nat} {Z : aj_Z} {I : aj_I} {G : aj_G} {C : Nat × Nat} (k0 : Z.2.1 o0 = some (.inl 1)) (r0 : Z.2.2 o0 1 = .ref q0) (k1 : Z.2.1 q0 = some (.inr (0, nk1))) (h0 : vp_in x1 nk1) (h1 : T 0 0 25 [.ref o0, .long (Int32.toInt64 (I q0 (Int32.toNatClampNeg x1))), .int 4] Z I G (fun r Z1 I1 G1 => J 36 [some (.ref o0), some (.int x1), w2] (r.toList ++ []) Z1 I1 G1 C)) : J 24 [some (.ref o0), some (.int x1), w2] [] Z I G C := by
  refine s_aload_n hJ d_36_24 rfl ?_
  refine s_aload_n hJ d_36_25 rfl ?_
  refine s_getr hJ lf_1_7 rfl d_36_26 k0 r0 ?_
  refine s_iload_n hJ d_36_29 rfl ?_
  refine s_iald hJ d_36_30 k1 (h0) ?_
  refine s_i2l hJ d_36_31 ?_
  refine s_iconst_4 hJ d_36_32 ?_
  exact s_V2 hJ lm_1_76 d_36_33 (Nat.le_of_ble_eq_true rfl) k0 (h1)
set_option maxRecDepth 4000 in
theorem b_36_36 {mc ms : Nat} {X : Option (Nat × (Nat → Int32))} {T : aj_Tt} {Q : aj_Q} {J : aj_J} (hJ : aj_Cl 1 c_36 (none) false mc ms X T Q J) {o0 : Nat} {x1 : Int32} {w2 : Option Value} {Z : aj_Z} {I : aj_I} {G : aj_G} {C : Nat × Nat} (h0 : J 38 [some (.ref o0), some (.int x1), some (.int 0)] [] Z I G C) : J 36 [some (.ref o0), some (.int x1), w2] [] Z I G C := by
  refine s_iconst_0 hJ d_36_36 ?_
  refine s_istore_n hJ d_36_37 (Nat.le_of_ble_eq_true rfl) ?_
  exact h0
set_option maxRecDepth 4000 in
theorem b_36_38 {mc ms : Nat} {X : Option (Nat × (Nat → Int32))} {T : aj_Tt} {Q : aj_Q} {J : aj_J} (hJ : aj_Cl 1 c_36 (none) false mc ms X T Q J) {o0 : Nat} {x1 : Int32} {x2 : Int32} {q0 : Nat} {nk1 : Nat} {q1 : Nat} {nk3 : Nat} {Z : aj_Z} {I : aj_I} {G : aj_G} {C : Nat × Nat} (k0 : Z.2.1 o0 = some (.inl 1)) (r0 : Z.2.2 o0 1 = .ref q0) (k1 : Z.2.1 q0 = some (.inr (0, nk1))) (h0 : vp_in x1 nk1) (h1 : (I q0 (Int32.toNatClampNeg x1)) ≤ x2 → Q none Z I G) (r1 : Z.2.2 o0 3 = .ref q1) (k3 : Z.2.1 q1 = some (.inr (0, nk3))) (h2 : ¬ (I q0 (Int32.toNatClampNeg x1)) ≤ x2 → vp_in ((16 * x1) + x2) nk3) (h3 : ¬ (I q0 (Int32.toNatClampNeg x1)) ≤ x2 → T 0 0 25 [.ref o0, .long (Int32.toInt64 (I q1 (Int32.toNatClampNeg ((16 * x1) + x2)))), .int 4] Z I G (fun r Z1 I1 G1 => J 65 [some (.ref o0), some (.int x1), some (.int x2)] (r.toList ++ []) Z1 I1 G1 C)) : J 38 [some (.ref o0), some (.int x1), some (.int x2)] [] Z I G C := by
  refine s_iload_n hJ d_36_38 rfl ?_
  refine s_aload_n hJ d_36_39 rfl ?_
  refine s_getr hJ lf_1_7 rfl d_36_40 k0 r0 ?_
  refine s_iload_n hJ d_36_43 rfl ?_
  refine s_iald hJ d_36_44 k1 (h0) ?_
  refine s_icmp_ge (tgt := 71) hJ d_36_45 rfl (fun c0 => ?_) (fun c0 => ?_)
  · skip
    exact s_vret hJ d_36_71 rfl (h1 c0)
  · skip
    refine s_aload_n hJ d_36_48 rfl ?_
    refine s_aload_n hJ d_36_49 rfl ?_
    refine s_getr hJ lf_1_16 rfl d_36_50 k0 r1 ?_
    refine s_bipush (v := 16) hJ d_36_53 (by decide) ?_
    refine s_iload_n hJ d_36_55 rfl ?_
    refine s_imul hJ d_36_56 ?_
    refine s_iload_n hJ d_36_57 rfl ?_
    refine s_iadd hJ d_36_58 ?_
    refine s_iald hJ d_36_59 k3 (h2 c0) ?_
    refine s_i2l hJ d_36_60 ?_
    refine s_iconst_4 hJ d_36_61 ?_
    exact s_V2 hJ lm_1_76 d_36_62 (Nat.le_of_ble_eq_true rfl) k0 (h3 c0)
set_option maxRecDepth 4000 in
theorem b_36_65 {mc ms : Nat} {X : Option (Nat × (Nat → Int32))} {T : aj_Tt} {Q : aj_Q} {J : aj_J} (hJ : aj_Cl 1 c_36 (none) false mc ms X T Q J) {o0 : Nat} {x1 : Int32} {x2 : Int32} {Z : aj_Z} {I : aj_I} {G : aj_G} {C : Nat × Nat} (h0 : J 38 [some (.ref o0), some (.int x1), some (.int (x2 + 1))] [] Z I G C) : J 65 [some (.ref o0), some (.int x1), some (.int x2)] [] Z I G C := by
  refine s_iinc (v := 1) hJ d_36_65 rfl (by decide) ?_
  refine s_goto (tgt := 38) hJ d_36_68 rfl ?_
  exact h0
-- ReelOfBoxesModel.writePlaces(IIZI)V : method 37
theorem d_37_0 : decode c_37 0 = .ok (.aload_n 0, 1) := by decide +kernel
theorem d_37_1 : decode c_37 1 = .ok (.iload_n 1, 1) := by decide +kernel
theorem d_37_2 : decode c_37 2 = .ok (.iload_n 2, 1) := by decide +kernel
theorem d_37_3 : decode c_37 3 = .ok (.invokevirtual 80, 3) := by decide +kernel
theorem d_37_6 : decode c_37 6 = .ok (.istore 5, 2) := by decide +kernel
theorem d_37_8 : decode c_37 8 = .ok (.iload_n 3, 1) := by decide +kernel
theorem d_37_9 : decode c_37 9 = .ok (.ifCond .eq (8), 3) := by decide +kernel
theorem d_37_12 : decode c_37 12 = .ok (.bipush (8), 2) := by decide +kernel
theorem d_37_14 : decode c_37 14 = .ok (.goto (4), 3) := by decide +kernel
theorem d_37_17 : decode c_37 17 = .ok (.iconst (4), 1) := by decide +kernel
theorem d_37_18 : decode c_37 18 = .ok (.istore 6, 2) := by decide +kernel
theorem d_37_20 : decode c_37 20 = .ok (.aload_n 0, 1) := by decide +kernel
theorem d_37_21 : decode c_37 21 = .ok (.bipush (16), 2) := by decide +kernel
theorem d_37_23 : decode c_37 23 = .ok (.iload 6, 2) := by decide +kernel
theorem d_37_25 : decode c_37 25 = .ok (.iload 5, 2) := by decide +kernel
theorem d_37_27 : decode c_37 27 = .ok (.imul, 1) := by decide +kernel
theorem d_37_28 : decode c_37 28 = .ok (.iadd, 1) := by decide +kernel
theorem d_37_29 : decode c_37 29 = .ok (.iload_n 3, 1) := by decide +kernel
theorem d_37_30 : decode c_37 30 = .ok (.ifCond .eq (8), 3) := by decide +kernel
theorem d_37_33 : decode c_37 33 = .ok (.ldc 105, 2) := by decide +kernel
theorem d_37_35 : decode c_37 35 = .ok (.goto (5), 3) := by decide +kernel
theorem d_37_38 : decode c_37 38 = .ok (.ldc 106, 2) := by decide +kernel
theorem d_37_40 : decode c_37 40 = .ok (.invokevirtual 99, 3) := by decide +kernel
theorem d_37_43 : decode c_37 43 = .ok (.aload_n 0, 1) := by decide +kernel
theorem d_37_44 : decode c_37 44 = .ok (.lconst 0, 1) := by decide +kernel
theorem d_37_45 : decode c_37 45 = .ok (.iconst (4), 1) := by decide +kernel
theorem d_37_46 : decode c_37 46 = .ok (.invokevirtual 76, 3) := by decide +kernel
theorem d_37_49 : decode c_37 49 = .ok (.aload_n 0, 1) := by decide +kernel
theorem d_37_50 : decode c_37 50 = .ok (.iload 5, 2) := by decide +kernel
theorem d_37_52 : decode c_37 52 = .ok (.i2l, 1) := by decide +kernel
theorem d_37_53 : decode c_37 53 = .ok (.iconst (4), 1) := by decide +kernel
theorem d_37_54 : decode c_37 54 = .ok (.invokevirtual 76, 3) := by decide +kernel
theorem d_37_57 : decode c_37 57 = .ok (.iconst (0), 1) := by decide +kernel
theorem d_37_58 : decode c_37 58 = .ok (.istore 7, 2) := by decide +kernel
theorem d_37_60 : decode c_37 60 = .ok (.iload 7, 2) := by decide +kernel
theorem d_37_62 : decode c_37 62 = .ok (.iload 5, 2) := by decide +kernel
theorem d_37_64 : decode c_37 64 = .ok (.if_icmp .ge (27), 3) := by decide +kernel
theorem d_37_67 : decode c_37 67 = .ok (.aload_n 0, 1) := by decide +kernel
theorem d_37_68 : decode c_37 68 = .ok (.iload 4, 2) := by decide +kernel
theorem d_37_70 : decode c_37 70 = .ok (.aload_n 0, 1) := by decide +kernel
theorem d_37_71 : decode c_37 71 = .ok (.iload_n 1, 1) := by decide +kernel
theorem d_37_72 : decode c_37 72 = .ok (.iload_n 2, 1) := by decide +kernel
theorem d_37_73 : decode c_37 73 = .ok (.iload 7, 2) := by decide +kernel
theorem d_37_75 : decode c_37 75 = .ok (.invokevirtual 107, 3) := by decide +kernel
theorem d_37_78 : decode c_37 78 = .ok (.iadd, 1) := by decide +kernel
theorem d_37_79 : decode c_37 79 = .ok (.i2l, 1) := by decide +kernel
theorem d_37_80 : decode c_37 80 = .ok (.iload 6, 2) := by decide +kernel
theorem d_37_82 : decode c_37 82 = .ok (.invokevirtual 76, 3) := by decide +kernel
theorem d_37_85 : decode c_37 85 = .ok (.iinc 7 (1), 3) := by decide +kernel
theorem d_37_88 : decode c_37 88 = .ok (.goto (-28), 3) := by decide +kernel
theorem d_37_91 : decode c_37 91 = .ok (.return_, 1) := by decide +kernel
set_option maxRecDepth 4000 in
theorem b_37_0 {mc ms : Nat} {X : Option (Nat × (Nat → Int32))} {T : aj_Tt} {Q : aj_Q} {J : aj_J} (hJ : aj_Cl 1 c_37 (none) false mc ms X T Q J) {o0 : Nat} {x1 : Int32} {x2 : Int32} {x3 : Int32} {x4 : Int32} {Z : aj_Z} {I : aj_I} {G : aj_G} {C : Nat × Nat} (k0 : Z.2.1 o0 = some (.inl 1)) (h0 : T 0 0 27 [.ref o0, .int x1, .int x2] Z I G (fun r Z1 I1 G1 => J 6 [some (.ref o0), some (.int x1), some (.int x2), some (.int x3), some (.int x4), none, none, none] (r.toList ++ []) Z1 I1 G1 C)) : J 0 [some (.ref o0), some (.int x1), some (.int x2), some (.int x3), some (.int x4), none, none, none] [] Z I G C := by
  refine s_aload_n hJ d_37_0 rfl ?_
  refine s_iload_n hJ d_37_1 rfl ?_
  refine s_iload_n hJ d_37_2 rfl ?_
  exact s_V2 hJ lm_1_80 d_37_3 (Nat.le_of_ble_eq_true rfl) k0 (h0)
set_option maxRecDepth 4000 in
theorem b_37_6 {mc ms : Nat} {X : Option (Nat × (Nat → Int32))} {T : aj_Tt} {Q : aj_Q} {J : aj_J} (hJ : aj_Cl 1 c_37 (none) false mc ms X T Q J) {o0 : Nat} {x1 : Int32} {x2 : Int32} {x3 : Int32} {x4 : Int32} {w5 : Option Value} {w6 : Option Value} {w7 : Option Value} {s0 : Int32} {Z : aj_Z} {I : aj_I} {G : aj_G} {C : Nat × Nat} (h0 : x3 = 0 → J 18 [some (.ref o0), some (.int x1), some (.int x2), some (.int x3), some (.int x4), some (.int s0), w6, w7] [.int 4] Z I G C) (h1 : ¬ x3 = 0 → J 18 [some (.ref o0), some (.int x1), some (.int x2), some (.int x3), some (.int x4), some (.int s0), w6, w7] [.int 8] Z I G C) : J 6 [some (.ref o0), some (.int x1), some (.int x2), some (.int x3), some (.int x4), w5, w6, w7] [.int s0] Z I G C := by
  refine s_istore hJ d_37_6 (Nat.le_of_ble_eq_true rfl) ?_
  refine s_iload_n hJ d_37_8 rfl ?_
  refine s_if_eq (tgt := 17) hJ d_37_9 rfl (fun c0 => ?_) (fun c0 => ?_)
  · skip
    refine s_iconst_4 hJ d_37_17 ?_
    exact h0 c0
  · skip
    refine s_bipush (v := 8) hJ d_37_12 (by decide) ?_
    refine s_goto (tgt := 18) hJ d_37_14 rfl ?_
    exact h1 c0
set_option maxRecDepth 4000 in
theorem b_37_18 {mc ms : Nat} {X : Option (Nat × (Nat → Int32))} {T : aj_Tt} {Q : aj_Q} {J : aj_J} (hJ : aj_Cl 1 c_37 (none) false mc ms X T Q J) {o0 : Nat} {x1 : Int32} {x2 : Int32} {x3 : Int32} {x4 : Int32} {x5 : Int32} {w6 : Option Value} {w7 : Option Value} {s0 : Int32} {Z : aj_Z} {I : aj_I} {G : aj_G} {C : Nat × Nat} (k0 : Z.2.1 o0 = some (.inl 1)) (h0 : x3 = 0 → T 0 0 26 [.ref o0, .int (16 + (s0 * x5)), .int 1937007471] Z I G (fun r Z1 I1 G1 => J 43 [some (.ref o0), some (.int x1), some (.int x2), some (.int x3), some (.int x4), some (.int x5), some (.int s0), w7] (r.toList ++ []) Z1 I1 G1 C)) (h1 : ¬ x3 = 0 → T 0 0 26 [.ref o0, .int (16 + (s0 * x5)), .int 1668232756] Z I G (fun r Z1 I1 G1 => J 43 [some (.ref o0), some (.int x1), some (.int x2), some (.int x3), some (.int x4), some (.int x5), some (.int s0), w7] (r.toList ++ []) Z1 I1 G1 C)) : J 18 [some (.ref o0), some (.int x1), some (.int x2), some (.int x3), some (.int x4), some (.int x5), w6, w7] [.int s0] Z I G C := by
  refine s_istore hJ d_37_18 (Nat.le_of_ble_eq_true rfl) ?_
  refine s_aload_n hJ d_37_20 rfl ?_
  refine s_bipush (v := 16) hJ d_37_21 (by decide) ?_
  refine s_iload hJ d_37_23 rfl ?_
  refine s_iload hJ d_37_25 rfl ?_
  refine s_imul hJ d_37_27 ?_
  refine s_iadd hJ d_37_28 ?_
  refine s_iload_n hJ d_37_29 rfl ?_
  refine s_if_eq (tgt := 38) hJ d_37_30 rfl (fun c0 => ?_) (fun c0 => ?_)
  · skip
    refine s_ldc hJ lc_1_106 d_37_38 ?_
    exact s_V2 hJ lm_1_99 d_37_40 (Nat.le_of_ble_eq_true rfl) k0 (h0 c0)
  · skip
    refine s_ldc hJ lc_1_105 d_37_33 ?_
    refine s_goto (tgt := 40) hJ d_37_35 rfl ?_
    exact s_V2 hJ lm_1_99 d_37_40 (Nat.le_of_ble_eq_true rfl) k0 (h1 c0)
set_option maxRecDepth 4000 in
theorem b_37_43 {mc ms : Nat} {X : Option (Nat × (Nat → Int32))} {T : aj_Tt} {Q : aj_Q} {J : aj_J} (hJ : aj_Cl 1 c_37 (none) false mc ms X T Q J) {o0 : Nat} {x1 : Int32} {x2 : Int32} {w3 : Option Value} {x4 : Int32} {x5 : Int32} {x6 : Int32} {w7 : Option Value} {Z : aj_Z} {I : aj_I} {G : aj_G} {C : Nat × Nat} (k0 : Z.2.1 o0 = some (.inl 1)) (h0 : T 0 0 25 [.ref o0, .long 0, .int 4] Z I G (fun r Z1 I1 G1 => J 49 [some (.ref o0), some (.int x1), some (.int x2), w3, some (.int x4), some (.int x5), some (.int x6), w7] (r.toList ++ []) Z1 I1 G1 C)) : J 43 [some (.ref o0), some (.int x1), some (.int x2), w3, some (.int x4), some (.int x5), some (.int x6), w7] [] Z I G C := by
  refine s_aload_n hJ d_37_43 rfl ?_
  refine s_lconst_0 hJ d_37_44 ?_
  refine s_iconst_4 hJ d_37_45 ?_
  exact s_V2 hJ lm_1_76 d_37_46 (Nat.le_of_ble_eq_true rfl) k0 (h0)
set_option maxRecDepth 4000 in
theorem b_37_49 {mc ms : Nat} {X : Option (Nat × (Nat → Int32))} {T : aj_Tt} {Q : aj_Q} {J : aj_J} (hJ : aj_Cl 1 c_37 (none) false mc ms X T Q J) {o0 : Nat} {x1 : Int32} {x2 : Int32} {w3 : Option Value} {x4 : Int32} {x5 : Int32} {x6 : Int32} {w7 : Option Value} {Z : aj_Z} {I : aj_I} {G : aj_G} {C : Nat × Nat} (k0 : Z.2.1 o0 = some (.inl 1)) (h0 : T 0 0 25 [.ref o0, .long (Int32.toInt64 x5), .int 4] Z I G (fun r Z1 I1 G1 => J 57 [some (.ref o0), some (.int x1), some (.int x2), w3, some (.int x4), some (.int x5), some (.int x6), w7] (r.toList ++ []) Z1 I1 G1 C)) : J 49 [some (.ref o0), some (.int x1), some (.int x2), w3, some (.int x4), some (.int x5), some (.int x6), w7] [] Z I G C := by
  refine s_aload_n hJ d_37_49 rfl ?_
  refine s_iload hJ d_37_50 rfl ?_
  refine s_i2l hJ d_37_52 ?_
  refine s_iconst_4 hJ d_37_53 ?_
  exact s_V2 hJ lm_1_76 d_37_54 (Nat.le_of_ble_eq_true rfl) k0 (h0)
set_option maxRecDepth 4000 in
theorem b_37_57 {mc ms : Nat} {X : Option (Nat × (Nat → Int32))} {T : aj_Tt} {Q : aj_Q} {J : aj_J} (hJ : aj_Cl 1 c_37 (none) false mc ms X T Q J) {o0 : Nat} {x1 : Int32} {x2 : Int32} {w3 : Option Value} {x4 : Int32} {x5 : Int32} {x6 : Int32} {w7 : Option Value} {Z : aj_Z} {I : aj_I} {G : aj_G} {C : Nat × Nat} (h0 : J 60 [some (.ref o0), some (.int x1), some (.int x2), w3, some (.int x4), some (.int x5), some (.int x6), some (.int 0)] [] Z I G C) : J 57 [some (.ref o0), some (.int x1), some (.int x2), w3, some (.int x4), some (.int x5), some (.int x6), w7] [] Z I G C := by
  refine s_iconst_0 hJ d_37_57 ?_
  refine s_istore hJ d_37_58 (Nat.le_of_ble_eq_true rfl) ?_
  exact h0
set_option maxRecDepth 4000 in
theorem b_37_60 {mc ms : Nat} {X : Option (Nat × (Nat → Int32))} {T : aj_Tt} {Q : aj_Q} {J : aj_J} (hJ : aj_Cl 1 c_37 (none) false mc ms X T Q J) {o0 : Nat} {x1 : Int32} {x2 : Int32} {w3 : Option Value} {x4 : Int32} {x5 : Int32} {x6 : Int32} {x7 : Int32} {Z : aj_Z} {I : aj_I} {G : aj_G} {C : Nat × Nat} (h0 : x5 ≤ x7 → Q none Z I G) (k0 : Z.2.1 o0 = some (.inl 1)) (h1 : ¬ x5 ≤ x7 → T 0 0 33 [.ref o0, .int x1, .int x2, .int x7] Z I G (fun r Z1 I1 G1 => J 78 [some (.ref o0), some (.int x1), some (.int x2), w3, some (.int x4), some (.int x5), some (.int x6), some (.int x7)] (r.toList ++ [.int x4, .ref o0]) Z1 I1 G1 C)) : J 60 [some (.ref o0), some (.int x1), some (.int x2), w3, some (.int x4), some (.int x5), some (.int x6), some (.int x7)] [] Z I G C := by
  refine s_iload hJ d_37_60 rfl ?_
  refine s_iload hJ d_37_62 rfl ?_
  refine s_icmp_ge (tgt := 91) hJ d_37_64 rfl (fun c0 => ?_) (fun c0 => ?_)
  · skip
    exact s_vret hJ d_37_91 rfl (h0 c0)
  · skip
    refine s_aload_n hJ d_37_67 rfl ?_
    refine s_iload hJ d_37_68 rfl ?_
    refine s_aload_n hJ d_37_70 rfl ?_
    refine s_iload_n hJ d_37_71 rfl ?_
    refine s_iload_n hJ d_37_72 rfl ?_
    refine s_iload hJ d_37_73 rfl ?_
    exact s_V3 hJ lm_1_107 d_37_75 (Nat.le_of_ble_eq_true rfl) k0 (h1 c0)
set_option maxRecDepth 4000 in
theorem b_37_78 {mc ms : Nat} {X : Option (Nat × (Nat → Int32))} {T : aj_Tt} {Q : aj_Q} {J : aj_J} (hJ : aj_Cl 1 c_37 (none) false mc ms X T Q J) {o0 : Nat} {x1 : Int32} {x2 : Int32} {w3 : Option Value} {x4 : Int32} {x5 : Int32} {x6 : Int32} {x7 : Int32} {s0 : Int32} {s1 : Int32} {s2 : Nat} {Z : aj_Z} {I : aj_I} {G : aj_G} {C : Nat × Nat} (k0 : Z.2.1 s2 = some (.inl 1)) (h0 : T 0 0 25 [.ref s2, .long (Int32.toInt64 (s1 + s0)), .int x6] Z I G (fun r Z1 I1 G1 => J 85 [some (.ref o0), some (.int x1), some (.int x2), w3, some (.int x4), some (.int x5), some (.int x6), some (.int x7)] (r.toList ++ []) Z1 I1 G1 C)) : J 78 [some (.ref o0), some (.int x1), some (.int x2), w3, some (.int x4), some (.int x5), some (.int x6), some (.int x7)] [.int s0, .int s1, .ref s2] Z I G C := by
  refine s_iadd hJ d_37_78 ?_
  refine s_i2l hJ d_37_79 ?_
  refine s_iload hJ d_37_80 rfl ?_
  exact s_V2 hJ lm_1_76 d_37_82 (Nat.le_of_ble_eq_true rfl) k0 (h0)
set_option maxRecDepth 4000 in
theorem b_37_85 {mc ms : Nat} {X : Option (Nat × (Nat → Int32))} {T : aj_Tt} {Q : aj_Q} {J : aj_J} (hJ : aj_Cl 1 c_37 (none) false mc ms X T Q J) {o0 : Nat} {x1 : Int32} {x2 : Int32} {w3 : Option Value} {x4 : Int32} {x5 : Int32} {x6 : Int32} {x7 : Int32} {Z : aj_Z} {I : aj_I} {G : aj_G} {C : Nat × Nat} (h0 : J 60 [some (.ref o0), some (.int x1), some (.int x2), w3, some (.int x4), some (.int x5), some (.int x6), some (.int (x7 + 1))] [] Z I G C) : J 85 [some (.ref o0), some (.int x1), some (.int x2), w3, some (.int x4), some (.int x5), some (.int x6), some (.int x7)] [] Z I G C := by
  refine s_iinc (v := 1) hJ d_37_85 rfl (by decide) ?_
  refine s_goto (tgt := 60) hJ d_37_88 rfl ?_
  exact h0
-- ReelOfBoxesModel.allBytes()I : method 38
theorem d_38_0 : decode c_38 0 = .ok (.iconst (0), 1) := by decide +kernel
theorem d_38_1 : decode c_38 1 = .ok (.istore_n 1, 1) := by decide +kernel
theorem d_38_2 : decode c_38 2 = .ok (.iconst (0), 1) := by decide +kernel
theorem d_38_3 : decode c_38 3 = .ok (.istore_n 2, 1) := by decide +kernel
theorem d_38_4 : decode c_38 4 = .ok (.iload_n 2, 1) := by decide +kernel
theorem d_38_5 : decode c_38 5 = .ok (.aload_n 0, 1) := by decide +kernel
theorem d_38_6 : decode c_38 6 = .ok (.getfield 64, 3) := by decide +kernel
theorem d_38_9 : decode c_38 9 = .ok (.if_icmp .ge (41), 3) := by decide +kernel
theorem d_38_12 : decode c_38 12 = .ok (.iconst (0), 1) := by decide +kernel
theorem d_38_13 : decode c_38 13 = .ok (.istore_n 3, 1) := by decide +kernel
theorem d_38_14 : decode c_38 14 = .ok (.iload_n 3, 1) := by decide +kernel
theorem d_38_15 : decode c_38 15 = .ok (.aload_n 0, 1) := by decide +kernel
theorem d_38_16 : decode c_38 16 = .ok (.getfield 7, 3) := by decide +kernel
theorem d_38_19 : decode c_38 19 = .ok (.iload_n 2, 1) := by decide +kernel
theorem d_38_20 : decode c_38 20 = .ok (.iaload, 1) := by decide +kernel
theorem d_38_21 : decode c_38 21 = .ok (.if_icmp .ge (23), 3) := by decide +kernel
theorem d_38_24 : decode c_38 24 = .ok (.iload_n 1, 1) := by decide +kernel
theorem d_38_25 : decode c_38 25 = .ok (.aload_n 0, 1) := by decide +kernel
theorem d_38_26 : decode c_38 26 = .ok (.getfield 16, 3) := by decide +kernel
theorem d_38_29 : decode c_38 29 = .ok (.bipush (16), 2) := by decide +kernel
theorem d_38_31 : decode c_38 31 = .ok (.iload_n 2, 1) := by decide +kernel
theorem d_38_32 : decode c_38 32 = .ok (.imul, 1) := by decide +kernel
theorem d_38_33 : decode c_38 33 = .ok (.iload_n 3, 1) := by decide +kernel
theorem d_38_34 : decode c_38 34 = .ok (.iadd, 1) := by decide +kernel
theorem d_38_35 : decode c_38 35 = .ok (.iaload, 1) := by decide +kernel
theorem d_38_36 : decode c_38 36 = .ok (.iadd, 1) := by decide +kernel
theorem d_38_37 : decode c_38 37 = .ok (.istore_n 1, 1) := by decide +kernel
theorem d_38_38 : decode c_38 38 = .ok (.iinc 3 (1), 3) := by decide +kernel
theorem d_38_41 : decode c_38 41 = .ok (.goto (-27), 3) := by decide +kernel
theorem d_38_44 : decode c_38 44 = .ok (.iinc 2 (1), 3) := by decide +kernel
theorem d_38_47 : decode c_38 47 = .ok (.goto (-43), 3) := by decide +kernel
theorem d_38_50 : decode c_38 50 = .ok (.iload_n 1, 1) := by decide +kernel
theorem d_38_51 : decode c_38 51 = .ok (.ireturn, 1) := by decide +kernel
set_option maxRecDepth 4000 in
theorem b_38_0 {mc ms : Nat} {X : Option (Nat × (Nat → Int32))} {T : aj_Tt} {Q : aj_Q} {J : aj_J} (hJ : aj_Cl 1 c_38 (some .int) false mc ms X T Q J) {o0 : Nat} {Z : aj_Z} {I : aj_I} {G : aj_G} {C : Nat × Nat} (h0 : J 4 [some (.ref o0), some (.int 0), some (.int 0), none] [] Z I G C) : J 0 [some (.ref o0), none, none, none] [] Z I G C := by
  refine s_iconst_0 hJ d_38_0 ?_
  refine s_istore_n hJ d_38_1 (Nat.le_of_ble_eq_true rfl) ?_
  refine s_iconst_0 hJ d_38_2 ?_
  refine s_istore_n hJ d_38_3 (Nat.le_of_ble_eq_true rfl) ?_
  exact h0
set_option maxRecDepth 4000 in
theorem b_38_4 {mc ms : Nat} {X : Option (Nat × (Nat → Int32))} {T : aj_Tt} {Q : aj_Q} {J : aj_J} (hJ : aj_Cl 1 c_38 (some .int) false mc ms X T Q J) {o0 : Nat} {x1 : Int32} {x2 : Int32} {w3 : Option Value} {Z : aj_Z} {I : aj_I} {G : aj_G} {C : Nat × Nat} (k0 : Z.2.1 o0 = some (.inl 1)) (h0 : (I o0 0) ≤ x2 → Q (some (.int x1)) Z I G) (h1 : ¬ (I o0 0) ≤ x2 → J 14 [some (.ref o0), some (.int x1), some (.int x2), some (.int 0)] [] Z I G C) : J 4 [some (.ref o0), some (.int x1), some (.int x2), w3] [] Z I G C := by
  refine s_iload_n hJ d_38_4 rfl ?_
  refine s_aload_n hJ d_38_5 rfl ?_
  refine s_geti hJ lf_1_64 rfl d_38_6 k0 ?_
  refine s_icmp_ge (tgt := 50) hJ d_38_9 rfl (fun c0 => ?_) (fun c0 => ?_)
  · skip
    refine s_iload_n hJ d_38_50 rfl ?_
    exact s_iret hJ d_38_51 rfl rfl (h0 c0)
  · skip
    refine s_iconst_0 hJ d_38_12 ?_
    refine s_istore_n hJ d_38_13 (Nat.le_of_ble_eq_true rfl) ?_
    exact h1 c0
set_option maxRecDepth 4000 in
theorem b_38_14 {mc ms : Nat} {X : Option (Nat × (Nat → Int32))} {T : aj_Tt} {Q : aj_Q} {J : aj_J} (hJ : aj_Cl 1 c_38 (some .int) false mc ms X T Q J) {o0 : Nat} {x1 : Int32} {x2 : Int32} {x3 : Int32} {q0 : Nat} {nk1 : Nat} {q1 : Nat} {nk3 : Nat} {Z : aj_Z} {I : aj_I} {G : aj_G} {C : Nat × Nat} (k0 : Z.2.1 o0 = some (.inl 1)) (r0 : Z.2.2 o0 1 = .ref q0) (k1 : Z.2.1 q0 = some (.inr (0, nk1))) (h0 : vp_in x2 nk1) (h1 : (I q0 (Int32.toNatClampNeg x2)) ≤ x3 → J 4 [some (.ref o0), some (.int x1), some (.int (x2 + 1)), some (.int x3)] [] Z I G C) (r1 : Z.2.2 o0 3 = .ref q1) (k3 : Z.2.1 q1 = some (.inr (0, nk3))) (h2 : ¬ (I q0 (Int32.toNatClampNeg x2)) ≤ x3 → vp_in ((16 * x2) + x3) nk3) (h3 : ¬ (I q0 (Int32.toNatClampNeg x2)) ≤ x3 → J 14 [some (.ref o0), some (.int (x1 + (I q1 (Int32.toNatClampNeg ((16 * x2) + x3))))), some (.int x2), some (.int (x3 + 1))] [] Z I G C) : J 14 [some (.ref o0), some (.int x1), some (.int x2), some (.int x3)] [] Z I G C := by
  refine s_iload_n hJ d_38_14 rfl ?_
  refine s_aload_n hJ d_38_15 rfl ?_
  refine s_getr hJ lf_1_7 rfl d_38_16 k0 r0 ?_
  refine s_iload_n hJ d_38_19 rfl ?_
  refine s_iald hJ d_38_20 k1 (h0) ?_
  refine s_icmp_ge (tgt := 44) hJ d_38_21 rfl (fun c0 => ?_) (fun c0 => ?_)
  · skip
    refine s_iinc (v := 1) hJ d_38_44 rfl (by decide) ?_
    refine s_goto (tgt := 4) hJ d_38_47 rfl ?_
    exact h1 c0
  · skip
    refine s_iload_n hJ d_38_24 rfl ?_
    refine s_aload_n hJ d_38_25 rfl ?_
    refine s_getr hJ lf_1_16 rfl d_38_26 k0 r1 ?_
    refine s_bipush (v := 16) hJ d_38_29 (by decide) ?_
    refine s_iload_n hJ d_38_31 rfl ?_
    refine s_imul hJ d_38_32 ?_
    refine s_iload_n hJ d_38_33 rfl ?_
    refine s_iadd hJ d_38_34 ?_
    refine s_iald hJ d_38_35 k3 (h2 c0) ?_
    refine s_iadd hJ d_38_36 ?_
    refine s_istore_n hJ d_38_37 (Nat.le_of_ble_eq_true rfl) ?_
    refine s_iinc (v := 1) hJ d_38_38 rfl (by decide) ?_
    refine s_goto (tgt := 14) hJ d_38_41 rfl ?_
    exact h3 c0
-- ReelOfBoxesModel.writeData(I)V : method 39
theorem d_39_0 : decode c_39 0 = .ok (.iconst (0), 1) := by decide +kernel
theorem d_39_1 : decode c_39 1 = .ok (.istore_n 2, 1) := by decide +kernel
theorem d_39_2 : decode c_39 2 = .ok (.iload_n 2, 1) := by decide +kernel
theorem d_39_3 : decode c_39 3 = .ok (.bipush (16), 2) := by decide +kernel
theorem d_39_5 : decode c_39 5 = .ok (.if_icmp .ge (102), 3) := by decide +kernel
theorem d_39_8 : decode c_39 8 = .ok (.iconst (0), 1) := by decide +kernel
theorem d_39_9 : decode c_39 9 = .ok (.istore_n 3, 1) := by decide +kernel
theorem d_39_10 : decode c_39 10 = .ok (.iload_n 3, 1) := by decide +kernel
theorem d_39_11 : decode c_39 11 = .ok (.aload_n 0, 1) := by decide +kernel
theorem d_39_12 : decode c_39 12 = .ok (.getfield 64, 3) := by decide +kernel
theorem d_39_15 : decode c_39 15 = .ok (.if_icmp .ge (86), 3) := by decide +kernel
theorem d_39_18 : decode c_39 18 = .ok (.iconst (0), 1) := by decide +kernel
theorem d_39_19 : decode c_39 19 = .ok (.istore 4, 2) := by decide +kernel
theorem d_39_21 : decode c_39 21 = .ok (.iload 4, 2) := by decide +kernel
theorem d_39_23 : decode c_39 23 = .ok (.aload_n 0, 1) := by decide +kernel
theorem d_39_24 : decode c_39 24 = .ok (.iload_n 3, 1) := by decide +kernel
theorem d_39_25 : decode c_39 25 = .ok (.iload_n 1, 1) := by decide +kernel
theorem d_39_26 : decode c_39 26 = .ok (.iload_n 2, 1) := by decide +kernel
theorem d_39_27 : decode c_39 27 = .ok (.invokevirtual 84, 3) := by decide +kernel
theorem d_39_30 : decode c_39 30 = .ok (.if_icmp .ge (65), 3) := by decide +kernel
theorem d_39_33 : decode c_39 33 = .ok (.bipush (16), 2) := by decide +kernel
theorem d_39_35 : decode c_39 35 = .ok (.iload_n 3, 1) := by decide +kernel
theorem d_39_36 : decode c_39 36 = .ok (.imul, 1) := by decide +kernel
theorem d_39_37 : decode c_39 37 = .ok (.iload_n 2, 1) := by decide +kernel
theorem d_39_38 : decode c_39 38 = .ok (.iload_n 1, 1) := by decide +kernel
theorem d_39_39 : decode c_39 39 = .ok (.imul, 1) := by decide +kernel
theorem d_39_40 : decode c_39 40 = .ok (.iadd, 1) := by decide +kernel
theorem d_39_41 : decode c_39 41 = .ok (.iload 4, 2) := by decide +kernel
theorem d_39_43 : decode c_39 43 = .ok (.iadd, 1) := by decide +kernel
theorem d_39_44 : decode c_39 44 = .ok (.istore 5, 2) := by decide +kernel
theorem d_39_46 : decode c_39 46 = .ok (.iconst (0), 1) := by decide +kernel
theorem d_39_47 : decode c_39 47 = .ok (.istore 6, 2) := by decide +kernel
theorem d_39_49 : decode c_39 49 = .ok (.iload 6, 2) := by decide +kernel
theorem d_39_51 : decode c_39 51 = .ok (.aload_n 0, 1) := by decide +kernel
theorem d_39_52 : decode c_39 52 = .ok (.getfield 16, 3) := by decide +kernel
theorem d_39_55 : decode c_39 55 = .ok (.iload 5, 2) := by decide +kernel
theorem d_39_57 : decode c_39 57 = .ok (.iaload, 1) := by decide +kernel
theorem d_39_58 : decode c_39 58 = .ok (.if_icmp .ge (31), 3) := by decide +kernel
theorem d_39_61 : decode c_39 61 = .ok (.aload_n 0, 1) := by decide +kernel
theorem d_39_62 : decode c_39 62 = .ok (.aload_n 0, 1) := by decide +kernel
theorem d_39_63 : decode c_39 63 = .ok (.getfield 19, 3) := by decide +kernel
theorem d_39_66 : decode c_39 66 = .ok (.iload 5, 2) := by decide +kernel
theorem d_39_68 : decode c_39 68 = .ok (.laload, 1) := by decide +kernel
theorem d_39_69 : decode c_39 69 = .ok (.bipush (8), 2) := by decide +kernel
theorem d_39_71 : decode c_39 71 = .ok (.iload 6, 2) := by decide +kernel
theorem d_39_73 : decode c_39 73 = .ok (.imul, 1) := by decide +kernel
theorem d_39_74 : decode c_39 74 = .ok (.lshr, 1) := by decide +kernel
theorem d_39_75 : decode c_39 75 = .ok (.ldc2_w 74, 3) := by decide +kernel
theorem d_39_78 : decode c_39 78 = .ok (.land, 1) := by decide +kernel
theorem d_39_79 : decode c_39 79 = .ok (.iconst (1), 1) := by decide +kernel
theorem d_39_80 : decode c_39 80 = .ok (.invokevirtual 76, 3) := by decide +kernel
theorem d_39_83 : decode c_39 83 = .ok (.iinc 6 (1), 3) := by decide +kernel
theorem d_39_86 : decode c_39 86 = .ok (.goto (-37), 3) := by decide +kernel
theorem d_39_89 : decode c_39 89 = .ok (.iinc 4 (1), 3) := by decide +kernel
theorem d_39_92 : decode c_39 92 = .ok (.goto (-71), 3) := by decide +kernel
theorem d_39_95 : decode c_39 95 = .ok (.iinc 3 (1), 3) := by decide +kernel
theorem d_39_98 : decode c_39 98 = .ok (.goto (-88), 3) := by decide +kernel
theorem d_39_101 : decode c_39 101 = .ok (.iinc 2 (1), 3) := by decide +kernel
theorem d_39_104 : decode c_39 104 = .ok (.goto (-102), 3) := by decide +kernel
theorem d_39_107 : decode c_39 107 = .ok (.return_, 1) := by decide +kernel
set_option maxRecDepth 4000 in
theorem b_39_0 {mc ms : Nat} {X : Option (Nat × (Nat → Int32))} {T : aj_Tt} {Q : aj_Q} {J : aj_J} (hJ : aj_Cl 1 c_39 (none) false mc ms X T Q J) {o0 : Nat} {x1 : Int32} {Z : aj_Z} {I : aj_I} {G : aj_G} {C : Nat × Nat} (h0 : J 2 [some (.ref o0), some (.int x1), some (.int 0), none, none, none, none] [] Z I G C) : J 0 [some (.ref o0), some (.int x1), none, none, none, none, none] [] Z I G C := by
  refine s_iconst_0 hJ d_39_0 ?_
  refine s_istore_n hJ d_39_1 (Nat.le_of_ble_eq_true rfl) ?_
  exact h0
set_option maxRecDepth 4000 in
theorem b_39_2 {mc ms : Nat} {X : Option (Nat × (Nat → Int32))} {T : aj_Tt} {Q : aj_Q} {J : aj_J} (hJ : aj_Cl 1 c_39 (none) false mc ms X T Q J) {o0 : Nat} {x1 : Int32} {x2 : Int32} {w3 : Option Value} {w4 : Option Value} {w5 : Option Value} {w6 : Option Value} {Z : aj_Z} {I : aj_I} {G : aj_G} {C : Nat × Nat} (h0 : 16 ≤ x2 → Q none Z I G) (h1 : ¬ 16 ≤ x2 → J 10 [some (.ref o0), some (.int x1), some (.int x2), some (.int 0), w4, w5, w6] [] Z I G C) : J 2 [some (.ref o0), some (.int x1), some (.int x2), w3, w4, w5, w6] [] Z I G C := by
  refine s_iload_n hJ d_39_2 rfl ?_
  refine s_bipush (v := 16) hJ d_39_3 (by decide) ?_
  refine s_icmp_ge (tgt := 107) hJ d_39_5 rfl (fun c0 => ?_) (fun c0 => ?_)
  · skip
    exact s_vret hJ d_39_107 rfl (h0 c0)
  · skip
    refine s_iconst_0 hJ d_39_8 ?_
    refine s_istore_n hJ d_39_9 (Nat.le_of_ble_eq_true rfl) ?_
    exact h1 c0
set_option maxRecDepth 4000 in
theorem b_39_10 {mc ms : Nat} {X : Option (Nat × (Nat → Int32))} {T : aj_Tt} {Q : aj_Q} {J : aj_J} (hJ : aj_Cl 1 c_39 (none) false mc ms X T Q J) {o0 : Nat} {x1 : Int32} {x2 : Int32} {x3 : Int32} {w4 : Option Value} {w5 : Option Value} {w6 : Option Value} {Z : aj_Z} {I : aj_I} {G : aj_G} {C : Nat × Nat} (k0 : Z.2.1 o0 = some (.inl 1)) (h0 : (I o0 0) ≤ x3 → J 2 [some (.ref o0), some (.int x1), some (.int (x2 + 1)), some (.int x3), w4, w5, w6] [] Z I G C) (h1 : ¬ (I o0 0) ≤ x3 → J 21 [some (.ref o0), some (.int x1), some (.int x2), some (.int x3), some (.int 0), w5, w6] [] Z I G C) : J 10 [some (.ref o0), some (.int x1), some (.int x2), some (.int x3), w4, w5, w6] [] Z I G C := by
  refine s_iload_n hJ d_39_10 rfl ?_
  refine s_aload_n hJ d_39_11 rfl ?_
  refine s_geti hJ lf_1_64 rfl d_39_12 k0 ?_
  refine s_icmp_ge (tgt := 101) hJ d_39_15 rfl (fun c0 => ?_) (fun c0 => ?_)
  · skip
    refine s_iinc (v := 1) hJ d_39_101 rfl (by decide) ?_
    refine s_goto (tgt := 2) hJ d_39_104 rfl ?_
    exact h0 c0
  · skip
    refine s_iconst_0 hJ d_39_18 ?_
    refine s_istore hJ d_39_19 (Nat.le_of_ble_eq_true rfl) ?_
    exact h1 c0
set_option maxRecDepth 4000 in
theorem b_39_21 {mc ms : Nat} {X : Option (Nat × (Nat → Int32))} {T : aj_Tt} {Q : aj_Q} {J : aj_J} (hJ : aj_Cl 1 c_39 (none) false mc ms X T Q J) {o0 : Nat} {x1 : Int32} {x2 : Int32} {x3 : Int32} {x4 : Int32} {w5 : Option Value} {w6 : Option Value} {Z : aj_Z} {I : aj_I} {G : aj_G} {C : Nat × Nat} (k0 : Z.2.1 o0 = some (.inl 1)) (h0 : T 0 0 28 [.ref o0, .int x3, .int x1, .int x2] Z I G (fun r Z1 I1 G1 => J 30 [some (.ref o0), some (.int x1), some (.int x2), some (.int x3), some (.int x4), w5, w6] (r.toList ++ [.int x4]) Z1 I1 G1 C)) : J 21 [some (.ref o0), some (.int x1), some (.int x2), some (.int x3), some (.int x4), w5, w6] [] Z I G C := by
  refine s_iload hJ d_39_21 rfl ?_
  refine s_aload_n hJ d_39_23 rfl ?_
  refine s_iload_n hJ d_39_24 rfl ?_
  refine s_iload_n hJ d_39_25 rfl ?_
  refine s_iload_n hJ d_39_26 rfl ?_
  exact s_V3 hJ lm_1_84 d_39_27 (Nat.le_of_ble_eq_true rfl) k0 (h0)
set_option maxRecDepth 4000 in
theorem b_39_30 {mc ms : Nat} {X : Option (Nat × (Nat → Int32))} {T : aj_Tt} {Q : aj_Q} {J : aj_J} (hJ : aj_Cl 1 c_39 (none) false mc ms X T Q J) {o0 : Nat} {x1 : Int32} {x2 : Int32} {x3 : Int32} {x4 : Int32} {w5 : Option Value} {w6 : Option Value} {s0 : Int32} {s1 : Int32} {Z : aj_Z} {I : aj_I} {G : aj_G} {C : Nat × Nat} (h0 : s0 ≤ s1 → J 10 [some (.ref o0), some (.int x1), some (.int x2), some (.int (x3 + 1)), some (.int x4), w5, w6] [] Z I G C) (h1 : ¬ s0 ≤ s1 → J 49 [some (.ref o0), some (.int x1), some (.int x2), some (.int x3), some (.int x4), some (.int (((16 * x3) + (x2 * x1)) + x4)), some (.int 0)] [] Z I G C) : J 30 [some (.ref o0), some (.int x1), some (.int x2), some (.int x3), some (.int x4), w5, w6] [.int s0, .int s1] Z I G C := by
  refine s_icmp_ge (tgt := 95) hJ d_39_30 rfl (fun c0 => ?_) (fun c0 => ?_)
  · skip
    refine s_iinc (v := 1) hJ d_39_95 rfl (by decide) ?_
    refine s_goto (tgt := 10) hJ d_39_98 rfl ?_
    exact h0 c0
  · skip
    refine s_bipush (v := 16) hJ d_39_33 (by decide) ?_
    refine s_iload_n hJ d_39_35 rfl ?_
    refine s_imul hJ d_39_36 ?_
    refine s_iload_n hJ d_39_37 rfl ?_
    refine s_iload_n hJ d_39_38 rfl ?_
    refine s_imul hJ d_39_39 ?_
    refine s_iadd hJ d_39_40 ?_
    refine s_iload hJ d_39_41 rfl ?_
    refine s_iadd hJ d_39_43 ?_
    refine s_istore hJ d_39_44 (Nat.le_of_ble_eq_true rfl) ?_
    refine s_iconst_0 hJ d_39_46 ?_
    refine s_istore hJ d_39_47 (Nat.le_of_ble_eq_true rfl) ?_
    exact h1 c0
set_option maxRecDepth 4000 in
theorem b_39_49 {mc ms : Nat} {X : Option (Nat × (Nat → Int32))} {T : aj_Tt} {Q : aj_Q} {J : aj_J} (hJ : aj_Cl 1 c_39 (none) false mc ms X T Q J) {o0 : Nat} {x1 : Int32} {x2 : Int32} {x3 : Int32} {x4 : Int32} {x5 : Int32} {x6 : Int32} {q0 : Nat} {nk1 : Nat} {q1 : Nat} {nk3 : Nat} {Z : aj_Z} {I : aj_I} {G : aj_G} {C : Nat × Nat} (k0 : Z.2.1 o0 = some (.inl 1)) (r0 : Z.2.2 o0 3 = .ref q0) (k1 : Z.2.1 q0 = some (.inr (0, nk1))) (h0 : vp_in x5 nk1) (h1 : (I q0 (Int32.toNatClampNeg x5)) ≤ x6 → J 21 [some (.ref o0), some (.int x1), some (.int x2), some (.int x3), some (.int (x4 + 1)), some (.int x5), some (.int x6)] [] Z I G C) (r1 : Z.2.2 o0 4 = .ref q1) (k3 : Z.2.1 q1 = some (.inr (1, nk3))) (h2 : ¬ (I q0 (Int32.toNatClampNeg x5)) ≤ x6 → vp_in x5 nk3) (h3 : ¬ (I q0 (Int32.toNatClampNeg x5)) ≤ x6 → T 0 0 25 [.ref o0, .long (((G q1 (Int32.toNatClampNeg x5)) >>> (Int32.toInt64 (8 * x6) &&& 63)) &&& 255), .int 1] Z I G (fun r Z1 I1 G1 => J 83 [some (.ref o0), some (.int x1), some (.int x2), some (.int x3), some (.int x4), some (.int x5), some (.int x6)] (r.toList ++ []) Z1 I1 G1 C)) : J 49 [some (.ref o0), some (.int x1), some (.int x2), some (.int x3), some (.int x4), some (.int x5), some (.int x6)] [] Z I G C := by
  refine s_iload hJ d_39_49 rfl ?_
  refine s_aload_n hJ d_39_51 rfl ?_
  refine s_getr hJ lf_1_16 rfl d_39_52 k0 r0 ?_
  refine s_iload hJ d_39_55 rfl ?_
  refine s_iald hJ d_39_57 k1 (h0) ?_
  refine s_icmp_ge (tgt := 89) hJ d_39_58 rfl (fun c0 => ?_) (fun c0 => ?_)
  · skip
    refine s_iinc (v := 1) hJ d_39_89 rfl (by decide) ?_
    refine s_goto (tgt := 21) hJ d_39_92 rfl ?_
    exact h1 c0
  · skip
    refine s_aload_n hJ d_39_61 rfl ?_
    refine s_aload_n hJ d_39_62 rfl ?_
    refine s_getr hJ lf_1_19 rfl d_39_63 k0 r1 ?_
    refine s_iload hJ d_39_66 rfl ?_
    refine s_lald hJ d_39_68 k3 (h2 c0) ?_
    refine s_bipush (v := 8) hJ d_39_69 (by decide) ?_
    refine s_iload hJ d_39_71 rfl ?_
    refine s_imul hJ d_39_73 ?_
    refine s_lshr hJ d_39_74 ?_
    refine s_ldc2 hJ ll_1_74 d_39_75 ?_
    refine s_land hJ d_39_78 ?_
    refine s_iconst_1 hJ d_39_79 ?_
    exact s_V2 hJ lm_1_76 d_39_80 (Nat.le_of_ble_eq_true rfl) k0 (h3 c0)
set_option maxRecDepth 4000 in
theorem b_39_83 {mc ms : Nat} {X : Option (Nat × (Nat → Int32))} {T : aj_Tt} {Q : aj_Q} {J : aj_J} (hJ : aj_Cl 1 c_39 (none) false mc ms X T Q J) {o0 : Nat} {x1 : Int32} {x2 : Int32} {x3 : Int32} {x4 : Int32} {x5 : Int32} {x6 : Int32} {Z : aj_Z} {I : aj_I} {G : aj_G} {C : Nat × Nat} (h0 : J 49 [some (.ref o0), some (.int x1), some (.int x2), some (.int x3), some (.int x4), some (.int x5), some (.int (x6 + 1))] [] Z I G C) : J 83 [some (.ref o0), some (.int x1), some (.int x2), some (.int x3), some (.int x4), some (.int x5), some (.int x6)] [] Z I G C := by
  refine s_iinc (v := 1) hJ d_39_83 rfl (by decide) ?_
  refine s_goto (tgt := 49) hJ d_39_86 rfl ?_
  exact h0
-- ReelOfBoxesModel.write(II)I : method 40
theorem d_40_0 : decode c_40 0 = .ok (.iload_n 1, 1) := by decide +kernel
theorem d_40_1 : decode c_40 1 = .ok (.iconst (1), 1) := by decide +kernel
theorem d_40_2 : decode c_40 2 = .ok (.if_icmp .lt (18), 3) := by decide +kernel
theorem d_40_5 : decode c_40 5 = .ok (.iload_n 1, 1) := by decide +kernel
theorem d_40_6 : decode c_40 6 = .ok (.bipush (16), 2) := by decide +kernel
theorem d_40_8 : decode c_40 8 = .ok (.if_icmp .gt (12), 3) := by decide +kernel
theorem d_40_11 : decode c_40 11 = .ok (.iload_n 2, 1) := by decide +kernel
theorem d_40_12 : decode c_40 12 = .ok (.ifCond .lt (8), 3) := by decide +kernel
theorem d_40_15 : decode c_40 15 = .ok (.iload_n 2, 1) := by decide +kernel
theorem d_40_16 : decode c_40 16 = .ok (.iconst (3), 1) := by decide +kernel
theorem d_40_17 : decode c_40 17 = .ok (.if_icmp .le (5), 3) := by decide +kernel
theorem d_40_20 : decode c_40 20 = .ok (.iconst (0), 1) := by decide +kernel
theorem d_40_21 : decode c_40 21 = .ok (.ireturn, 1) := by decide +kernel
theorem d_40_22 : decode c_40 22 = .ok (.iload_n 2, 1) := by decide +kernel
theorem d_40_23 : decode c_40 23 = .ok (.iconst (1), 1) := by decide +kernel
theorem d_40_24 : decode c_40 24 = .ok (.iand, 1) := by decide +kernel
theorem d_40_25 : decode c_40 25 = .ok (.iconst (1), 1) := by decide +kernel
theorem d_40_26 : decode c_40 26 = .ok (.if_icmp .ne (7), 3) := by decide +kernel
theorem d_40_29 : decode c_40 29 = .ok (.iconst (1), 1) := by decide +kernel
theorem d_40_30 : decode c_40 30 = .ok (.goto (4), 3) := by decide +kernel
theorem d_40_33 : decode c_40 33 = .ok (.iconst (0), 1) := by decide +kernel
theorem d_40_34 : decode c_40 34 = .ok (.istore_n 3, 1) := by decide +kernel
theorem d_40_35 : decode c_40 35 = .ok (.iload_n 2, 1) := by decide +kernel
theorem d_40_36 : decode c_40 36 = .ok (.iconst (2), 1) := by decide +kernel
theorem d_40_37 : decode c_40 37 = .ok (.iand, 1) := by decide +kernel
theorem d_40_38 : decode c_40 38 = .ok (.iconst (2), 1) := by decide +kernel
theorem d_40_39 : decode c_40 39 = .ok (.if_icmp .ne (7), 3) := by decide +kernel
theorem d_40_42 : decode c_40 42 = .ok (.iconst (1), 1) := by decide +kernel
theorem d_40_43 : decode c_40 43 = .ok (.goto (4), 3) := by decide +kernel
theorem d_40_46 : decode c_40 46 = .ok (.iconst (0), 1) := by decide +kernel
theorem d_40_47 : decode c_40 47 = .ok (.istore 4, 2) := by decide +kernel
theorem d_40_49 : decode c_40 49 = .ok (.bipush (8), 2) := by decide +kernel
theorem d_40_51 : decode c_40 51 = .ok (.istore 5, 2) := by decide +kernel
theorem d_40_53 : decode c_40 53 = .ok (.iconst (0), 1) := by decide +kernel
theorem d_40_54 : decode c_40 54 = .ok (.istore 6, 2) := by decide +kernel
theorem d_40_56 : decode c_40 56 = .ok (.iload 6, 2) := by decide +kernel
theorem d_40_58 : decode c_40 58 = .ok (.aload_n 0, 1) := by decide +kernel
theorem d_40_59 : decode c_40 59 = .ok (.getfield 64, 3) := by decide +kernel
theorem d_40_62 : decode c_40 62 = .ok (.if_icmp .ge (25), 3) := by decide +kernel
theorem d_40_65 : decode c_40 65 = .ok (.iload 5, 2) := by decide +kernel
theorem d_40_67 : decode c_40 67 = .ok (.bipush (8), 2) := by decide +kernel
theorem d_40_69 : decode c_40 69 = .ok (.iadd, 1) := by decide +kernel
theorem d_40_70 : decode c_40 70 = .ok (.aload_n 0, 1) := by decide +kernel
theorem d_40_71 : decode c_40 71 = .ok (.iload 6, 2) := by decide +kernel
theorem d_40_73 : decode c_40 73 = .ok (.iload_n 1, 1) := by decide +kernel
theorem d_40_74 : decode c_40 74 = .ok (.iload_n 3, 1) := by decide +kernel
theorem d_40_75 : decode c_40 75 = .ok (.invokevirtual 110, 3) := by decide +kernel
theorem d_40_78 : decode c_40 78 = .ok (.iadd, 1) := by decide +kernel
theorem d_40_79 : decode c_40 79 = .ok (.istore 5, 2) := by decide +kernel
theorem d_40_81 : decode c_40 81 = .ok (.iinc 6 (1), 3) := by decide +kernel
theorem d_40_84 : decode c_40 84 = .ok (.goto (-28), 3) := by decide +kernel
theorem d_40_87 : decode c_40 87 = .ok (.iload 5, 2) := by decide +kernel
theorem d_40_89 : decode c_40 89 = .ok (.iload 4, 2) := by decide +kernel
theorem d_40_91 : decode c_40 91 = .ok (.ifCond .eq (8), 3) := by decide +kernel
theorem d_40_94 : decode c_40 94 = .ok (.bipush (16), 2) := by decide +kernel
theorem d_40_96 : decode c_40 96 = .ok (.goto (5), 3) := by decide +kernel
theorem d_40_99 : decode c_40 99 = .ok (.bipush (8), 2) := by decide +kernel
theorem d_40_101 : decode c_40 101 = .ok (.iadd, 1) := by decide +kernel
theorem d_40_102 : decode c_40 102 = .ok (.istore 6, 2) := by decide +kernel
theorem d_40_104 : decode c_40 104 = .ok (.iload 6, 2) := by decide +kernel
theorem d_40_106 : decode c_40 106 = .ok (.aload_n 0, 1) := by decide +kernel
theorem d_40_107 : decode c_40 107 = .ok (.invokevirtual 114, 3) := by decide +kernel
theorem d_40_110 : decode c_40 110 = .ok (.iadd, 1) := by decide +kernel
theorem d_40_111 : decode c_40 111 = .ok (.istore 7, 2) := by decide +kernel
theorem d_40_113 : decode c_40 113 = .ok (.iload 7, 2) := by decide +kernel
theorem d_40_115 : decode c_40 115 = .ok (.sipush (1200), 3) := by decide +kernel
theorem d_40_118 : decode c_40 118 = .ok (.if_icmp .le (5), 3) := by decide +kernel
theorem d_40_121 : decode c_40 121 = .ok (.iconst (0), 1) := by decide +kernel
theorem d_40_122 : decode c_40 122 = .ok (.ireturn, 1) := by decide +kernel
theorem d_40_123 : decode c_40 123 = .ok (.aload_n 0, 1) := by decide +kernel
theorem d_40_124 : decode c_40 124 = .ok (.iconst (0), 1) := by decide +kernel
theorem d_40_125 : decode c_40 125 = .ok (.putfield 71, 3) := by decide +kernel
theorem d_40_128 : decode c_40 128 = .ok (.aload_n 0, 1) := by decide +kernel
theorem d_40_129 : decode c_40 129 = .ok (.iload 5, 2) := by decide +kernel
theorem d_40_131 : decode c_40 131 = .ok (.ldc 118, 2) := by decide +kernel
theorem d_40_133 : decode c_40 133 = .ok (.invokevirtual 99, 3) := by decide +kernel
theorem d_40_136 : decode c_40 136 = .ok (.iconst (0), 1) := by decide +kernel
theorem d_40_137 : decode c_40 137 = .ok (.istore 8, 2) := by decide +kernel
theorem d_40_139 : decode c_40 139 = .ok (.iload 8, 2) := by decide +kernel
theorem d_40_141 : decode c_40 141 = .ok (.aload_n 0, 1) := by decide +kernel
theorem d_40_142 : decode c_40 142 = .ok (.getfield 64, 3) := by decide +kernel
theorem d_40_145 : decode c_40 145 = .ok (.if_icmp .ge (67), 3) := by decide +kernel
theorem d_40_148 : decode c_40 148 = .ok (.aload_n 0, 1) := by decide +kernel
theorem d_40_149 : decode c_40 149 = .ok (.iload 8, 2) := by decide +kernel
theorem d_40_151 : decode c_40 151 = .ok (.iload_n 1, 1) := by decide +kernel
theorem d_40_152 : decode c_40 152 = .ok (.iload_n 3, 1) := by decide +kernel
theorem d_40_153 : decode c_40 153 = .ok (.invokevirtual 110, 3) := by decide +kernel
theorem d_40_156 : decode c_40 156 = .ok (.istore 9, 2) := by decide +kernel
theorem d_40_158 : decode c_40 158 = .ok (.aload_n 0, 1) := by decide +kernel
theorem d_40_159 : decode c_40 159 = .ok (.bipush (8), 2) := by decide +kernel
theorem d_40_161 : decode c_40 161 = .ok (.iload 9, 2) := by decide +kernel
theorem d_40_163 : decode c_40 163 = .ok (.iadd, 1) := by decide +kernel
theorem d_40_164 : decode c_40 164 = .ok (.ldc 119, 2) := by decide +kernel
theorem d_40_166 : decode c_40 166 = .ok (.invokevirtual 99, 3) := by decide +kernel
theorem d_40_169 : decode c_40 169 = .ok (.aload_n 0, 1) := by decide +kernel
theorem d_40_170 : decode c_40 170 = .ok (.iload 9, 2) := by decide +kernel
theorem d_40_172 : decode c_40 172 = .ok (.ldc 120, 2) := by decide +kernel
theorem d_40_174 : decode c_40 174 = .ok (.invokevirtual 99, 3) := by decide +kernel
theorem d_40_177 : decode c_40 177 = .ok (.aload_n 0, 1) := by decide +kernel
theorem d_40_178 : decode c_40 178 = .ok (.iload 8, 2) := by decide +kernel
theorem d_40_180 : decode c_40 180 = .ok (.invokevirtual 121, 3) := by decide +kernel
theorem d_40_183 : decode c_40 183 = .ok (.aload_n 0, 1) := by decide +kernel
theorem d_40_184 : decode c_40 184 = .ok (.iload 8, 2) := by decide +kernel
theorem d_40_186 : decode c_40 186 = .ok (.iload_n 1, 1) := by decide +kernel
theorem d_40_187 : decode c_40 187 = .ok (.invokevirtual 125, 3) := by decide +kernel
theorem d_40_190 : decode c_40 190 = .ok (.aload_n 0, 1) := by decide +kernel
theorem d_40_191 : decode c_40 191 = .ok (.iload 8, 2) := by decide +kernel
theorem d_40_193 : decode c_40 193 = .ok (.invokevirtual 128, 3) := by decide +kernel
theorem d_40_196 : decode c_40 196 = .ok (.aload_n 0, 1) := by decide +kernel
theorem d_40_197 : decode c_40 197 = .ok (.iload 8, 2) := by decide +kernel
theorem d_40_199 : decode c_40 199 = .ok (.iload_n 1, 1) := by decide +kernel
theorem d_40_200 : decode c_40 200 = .ok (.iload_n 3, 1) := by decide +kernel
theorem d_40_201 : decode c_40 201 = .ok (.iload 6, 2) := by decide +kernel
theorem d_40_203 : decode c_40 203 = .ok (.invokevirtual 131, 3) := by decide +kernel
theorem d_40_206 : decode c_40 206 = .ok (.iinc 8 (1), 3) := by decide +kernel
theorem d_40_209 : decode c_40 209 = .ok (.goto (-70), 3) := by decide +kernel
theorem d_40_212 : decode c_40 212 = .ok (.aload_n 0, 1) := by decide +kernel
theorem d_40_213 : decode c_40 213 = .ok (.iload 4, 2) := by decide +kernel
theorem d_40_215 : decode c_40 215 = .ok (.ifCond .eq (7), 3) := by decide +kernel
theorem d_40_218 : decode c_40 218 = .ok (.iconst (1), 1) := by decide +kernel
theorem d_40_219 : decode c_40 219 = .ok (.goto (8), 3) := by decide +kernel
theorem d_40_222 : decode c_40 222 = .ok (.iload 7, 2) := by decide +kernel
theorem d_40_224 : decode c_40 224 = .ok (.iload 5, 2) := by decide +kernel
theorem d_40_226 : decode c_40 226 = .ok (.isub, 1) := by decide +kernel
theorem d_40_227 : decode c_40 227 = .ok (.ldc 135, 2) := by decide +kernel
theorem d_40_229 : decode c_40 229 = .ok (.invokevirtual 99, 3) := by decide +kernel
theorem d_40_232 : decode c_40 232 = .ok (.iload 4, 2) := by decide +kernel
theorem d_40_234 : decode c_40 234 = .ok (.ifCond .eq (15), 3) := by decide +kernel
theorem d_40_237 : decode c_40 237 = .ok (.aload_n 0, 1) := by decide +kernel
theorem d_40_238 : decode c_40 238 = .ok (.iload 7, 2) := by decide +kernel
theorem d_40_240 : decode c_40 240 = .ok (.iload 5, 2) := by decide +kernel
theorem d_40_242 : decode c_40 242 = .ok (.isub, 1) := by decide +kernel
theorem d_40_243 : decode c_40 243 = .ok (.i2l, 1) := by decide +kernel
theorem d_40_244 : decode c_40 244 = .ok (.bipush (8), 2) := by decide +kernel
theorem d_40_246 : decode c_40 246 = .ok (.invokevirtual 76, 3) := by decide +kernel
theorem d_40_249 : decode c_40 249 = .ok (.aload_n 0, 1) := by decide +kernel
theorem d_40_250 : decode c_40 250 = .ok (.iload_n 1, 1) := by decide +kernel
theorem d_40_251 : decode c_40 251 = .ok (.invokevirtual 136, 3) := by decide +kernel
theorem d_40_254 : decode c_40 254 = .ok (.iload 7, 2) := by decide +kernel
theorem d_40_256 : decode c_40 256 = .ok (.ireturn, 1) := by decide +kernel
set_option maxRecDepth 4000 in
theorem b_40_0 {mc ms : Nat} {X : Option (Nat × (Nat → Int32))} {T : aj_Tt} {Q : aj_Q} {J : aj_J} (hJ : aj_Cl 1 c_40 (some .int) false mc ms X T Q J) {o0 : Nat} {x1 : Int32} {x2 : Int32} {Z : aj_Z} {I : aj_I} {G : aj_G} {C : Nat × Nat} (h0 : x1 < 1 → Q (some (.int 0)) Z I G) (h1 : ¬ x1 < 1 → 16 < x1 → Q (some (.int 0)) Z I G) (h2 : ¬ x1 < 1 → ¬ 16 < x1 → x2 < 0 → Q (some (.int 0)) Z I G) (h3 : ¬ x1 < 1 → ¬ 16 < x1 → ¬ x2 < 0 → x2 ≤ 3 → ¬ (x2 &&& 1) = 1 → J 34 [some (.ref o0), some (.int x1), some (.int x2), none, none, none, none, none, none, none] [.int 0] Z I G C) (h4 : ¬ x1 < 1 → ¬ 16 < x1 → ¬ x2 < 0 → x2 ≤ 3 → (x2 &&& 1) = 1 → J 34 [some (.ref o0), some (.int x1), some (.int x2), none, none, none, none, none, none, none] [.int 1] Z I G C) (h5 : ¬ x1 < 1 → ¬ 16 < x1 → ¬ x2 < 0 → ¬ x2 ≤ 3 → Q (some (.int 0)) Z I G) : J 0 [some (.ref o0), some (.int x1), some (.int x2), none, none, none, none, none, none, none] [] Z I G C := by
  refine s_iload_n hJ d_40_0 rfl ?_
  refine s_iconst_1 hJ d_40_1 ?_
  refine s_icmp_lt (tgt := 20) hJ d_40_2 rfl (fun c0 => ?_) (fun c0 => ?_)
  · skip
    refine s_iconst_0 hJ d_40_20 ?_
    exact s_iret hJ d_40_21 rfl rfl (h0 c0)
  · skip
    refine s_iload_n hJ d_40_5 rfl ?_
    refine s_bipush (v := 16) hJ d_40_6 (by decide) ?_
    refine s_icmp_gt (tgt := 20) hJ d_40_8 rfl (fun c1 => ?_) (fun c1 => ?_)
    · skip
      refine s_iconst_0 hJ d_40_20 ?_
      exact s_iret hJ d_40_21 rfl rfl (h1 c0 c1)
    · skip
      refine s_iload_n hJ d_40_11 rfl ?_
      refine s_if_lt (tgt := 20) hJ d_40_12 rfl (fun c2 => ?_) (fun c2 => ?_)
      · skip
        refine s_iconst_0 hJ d_40_20 ?_
        exact s_iret hJ d_40_21 rfl rfl (h2 c0 c1 c2)
      · skip
        refine s_iload_n hJ d_40_15 rfl ?_
        refine s_iconst_3 hJ d_40_16 ?_
        refine s_icmp_le (tgt := 22) hJ d_40_17 rfl (fun c3 => ?_) (fun c3 => ?_)
        · skip
          refine s_iload_n hJ d_40_22 rfl ?_
          refine s_iconst_1 hJ d_40_23 ?_
          refine s_iand hJ d_40_24 ?_
          refine s_iconst_1 hJ d_40_25 ?_
          refine s_icmp_ne (tgt := 33) hJ d_40_26 rfl (fun c4 => ?_) (fun c4 => ?_)
          · skip
            refine s_iconst_0 hJ d_40_33 ?_
            exact h3 c0 c1 c2 c3 c4
          · skip
            refine s_iconst_1 hJ d_40_29 ?_
            refine s_goto (tgt := 34) hJ d_40_30 rfl ?_
            exact h4 c0 c1 c2 c3 c4
        · skip
          refine s_iconst_0 hJ d_40_20 ?_
          exact s_iret hJ d_40_21 rfl rfl (h5 c0 c1 c2 c3)
set_option maxRecDepth 4000 in
theorem b_40_34 {mc ms : Nat} {X : Option (Nat × (Nat → Int32))} {T : aj_Tt} {Q : aj_Q} {J : aj_J} (hJ : aj_Cl 1 c_40 (some .int) false mc ms X T Q J) {o0 : Nat} {x1 : Int32} {x2 : Int32} {w3 : Option Value} {w4 : Option Value} {w5 : Option Value} {w6 : Option Value} {w7 : Option Value} {w8 : Option Value} {w9 : Option Value} {s0 : Int32} {Z : aj_Z} {I : aj_I} {G : aj_G} {C : Nat × Nat} (h0 : ¬ (x2 &&& 2) = 2 → J 56 [some (.ref o0), some (.int x1), some (.int x2), some (.int s0), some (.int 0), some (.int 8), some (.int 0), w7, w8, w9] [] Z I G C) (h1 : (x2 &&& 2) = 2 → J 56 [some (.ref o0), some (.int x1), some (.int x2), some (.int s0), some (.int 1), some (.int 8), some (.int 0), w7, w8, w9] [] Z I G C) : J 34 [some (.ref o0), some (.int x1), some (.int x2), w3, w4, w5, w6, w7, w8, w9] [.int s0] Z I G C := by
  refine s_istore_n hJ d_40_34 (Nat.le_of_ble_eq_true rfl) ?_
  refine s_iload_n hJ d_40_35 rfl ?_
  refine s_iconst_2 hJ d_40_36 ?_
  refine s_iand hJ d_40_37 ?_
  refine s_iconst_2 hJ d_40_38 ?_
  refine s_icmp_ne (tgt := 46) hJ d_40_39 rfl (fun c0 => ?_) (fun c0 => ?_)
  · skip
    refine s_iconst_0 hJ d_40_46 ?_
    refine s_istore hJ d_40_47 (Nat.le_of_ble_eq_true rfl) ?_
    refine s_bipush (v := 8) hJ d_40_49 (by decide) ?_
    refine s_istore hJ d_40_51 (Nat.le_of_ble_eq_true rfl) ?_
    refine s_iconst_0 hJ d_40_53 ?_
    refine s_istore hJ d_40_54 (Nat.le_of_ble_eq_true rfl) ?_
    exact h0 c0
  · skip
    refine s_iconst_1 hJ d_40_42 ?_
    refine s_goto (tgt := 47) hJ d_40_43 rfl ?_
    refine s_istore hJ d_40_47 (Nat.le_of_ble_eq_true rfl) ?_
    refine s_bipush (v := 8) hJ d_40_49 (by decide) ?_
    refine s_istore hJ d_40_51 (Nat.le_of_ble_eq_true rfl) ?_
    refine s_iconst_0 hJ d_40_53 ?_
    refine s_istore hJ d_40_54 (Nat.le_of_ble_eq_true rfl) ?_
    exact h1 c0
set_option maxRecDepth 4000 in
theorem b_40_56 {mc ms : Nat} {X : Option (Nat × (Nat → Int32))} {T : aj_Tt} {Q : aj_Q} {J : aj_J} (hJ : aj_Cl 1 c_40 (some .int) false mc ms X T Q J) {o0 : Nat} {x1 : Int32} {w2 : Option Value} {x3 : Int32} {x4 : Int32} {x5 : Int32} {x6 : Int32} {w7 : Option Value} {w8 : Option Value} {w9 : Option Value} {Z : aj_Z} {I : aj_I} {G : aj_G} {C : Nat × Nat} (k0 : Z.2.1 o0 = some (.inl 1)) (h0 : (I o0 0) ≤ x6 → x4 = 0 → T 0 0 38 [.ref o0] Z I G (fun r Z1 I1 G1 => J 110 [some (.ref o0), some (.int x1), w2, some (.int x3), some (.int x4), some (.int x5), some (.int (x5 + 8)), w7, w8, w9] (r.toList ++ [.int (x5 + 8)]) Z1 I1 G1 C)) (h1 : (I o0 0) ≤ x6 → ¬ x4 = 0 → T 0 0 38 [.ref o0] Z I G (fun r Z1 I1 G1 => J 110 [some (.ref o0), some (.int x1), w2, some (.int x3), some (.int x4), some (.int x5), some (.int (x5 + 16)), w7, w8, w9] (r.toList ++ [.int (x5 + 16)]) Z1 I1 G1 C)) (h2 : ¬ (I o0 0) ≤ x6 → T 0 0 31 [.ref o0, .int x6, .int x1, .int x3] Z I G (fun r Z1 I1 G1 => J 78 [some (.ref o0), some (.int x1), w2, some (.int x3), some (.int x4), some (.int x5), some (.int x6), w7, w8, w9] (r.toList ++ [.int (x5 + 8)]) Z1 I1 G1 C)) : J 56 [some (.ref o0), some (.int x1), w2, some (.int x3), some (.int x4), some (.int x5), some (.int x6), w7, w8, w9] [] Z I G C := by
  refine s_iload hJ d_40_56 rfl ?_
  refine s_aload_n hJ d_40_58 rfl ?_
  refine s_geti hJ lf_1_64 rfl d_40_59 k0 ?_
  refine s_icmp_ge (tgt := 87) hJ d_40_62 rfl (fun c0 => ?_) (fun c0 => ?_)
  · skip
    refine s_iload hJ d_40_87 rfl ?_
    refine s_iload hJ d_40_89 rfl ?_
    refine s_if_eq (tgt := 99) hJ d_40_91 rfl (fun c1 => ?_) (fun c1 => ?_)
    · skip
      refine s_bipush (v := 8) hJ d_40_99 (by decide) ?_
      refine s_iadd hJ d_40_101 ?_
      refine s_istore hJ d_40_102 (Nat.le_of_ble_eq_true rfl) ?_
      refine s_iload hJ d_40_104 rfl ?_
      refine s_aload_n hJ d_40_106 rfl ?_
      exact s_V0 hJ lm_1_114 d_40_107 (Nat.le_of_ble_eq_true rfl) k0 (h0 c0 c1)
    · skip
      refine s_bipush (v := 16) hJ d_40_94 (by decide) ?_
      refine s_goto (tgt := 101) hJ d_40_96 rfl ?_
      refine s_iadd hJ d_40_101 ?_
      refine s_istore hJ d_40_102 (Nat.le_of_ble_eq_true rfl) ?_
      refine s_iload hJ d_40_104 rfl ?_
      refine s_aload_n hJ d_40_106 rfl ?_
      exact s_V0 hJ lm_1_114 d_40_107 (Nat.le_of_ble_eq_true rfl) k0 (h1 c0 c1)
  · skip
    refine s_iload hJ d_40_65 rfl ?_
    refine s_bipush (v := 8) hJ d_40_67 (by decide) ?_
    refine s_iadd hJ d_40_69 ?_
    refine s_aload_n hJ d_40_70 rfl ?_
    refine s_iload hJ d_40_71 rfl ?_
    refine s_iload_n hJ d_40_73 rfl ?_
    refine s_iload_n hJ d_40_74 rfl ?_
    exact s_V3 hJ lm_1_110 d_40_75 (Nat.le_of_ble_eq_true rfl) k0 (h2 c0)
set_option maxRecDepth 4000 in
theorem b_40_78 {mc ms : Nat} {X : Option (Nat × (Nat → Int32))} {T : aj_Tt} {Q : aj_Q} {J : aj_J} (hJ : aj_Cl 1 c_40 (some .int) false mc ms X T Q J) {o0 : Nat} {x1 : Int32} {w2 : Option Value} {x3 : Int32} {x4 : Int32} {w5 : Option Value} {x6 : Int32} {w7 : Option Value} {w8 : Option Value} {w9 : Option Value} {s0 : Int32} {s1 : Int32} {Z : aj_Z} {I : aj_I} {G : aj_G} {C : Nat × Nat} (h0 : J 56 [some (.ref o0), some (.int x1), w2, some (.int x3), some (.int x4), some (.int (s1 + s0)), some (.int (x6 + 1)), w7, w8, w9] [] Z I G C) : J 78 [some (.ref o0), some (.int x1), w2, some (.int x3), some (.int x4), w5, some (.int x6), w7, w8, w9] [.int s0, .int s1] Z I G C := by
  refine s_iadd hJ d_40_78 ?_
  refine s_istore hJ d_40_79 (Nat.le_of_ble_eq_true rfl) ?_
  refine s_iinc (v := 1) hJ d_40_81 rfl (by decide) ?_
  refine s_goto (tgt := 56) hJ d_40_84 rfl ?_
  exact h0
set_option maxRecDepth 4000 in
theorem b_40_110 {mc ms : Nat} {X : Option (Nat × (Nat → Int32))} {T : aj_Tt} {Q : aj_Q} {J : aj_J} (hJ : aj_Cl 1 c_40 (some .int) false mc ms X T Q J) {o0 : Nat} {x1 : Int32} {w2 : Option Value} {x3 : Int32} {x4 : Int32} {x5 : Int32} {x6 : Int32} {w7 : Option Value} {w8 : Option Value} {w9 : Option Value} {s0 : Int32} {s1 : Int32} {Z : aj_Z} {I : aj_I} {G : aj_G} {C : Nat × Nat} (k0 : Z.2.1 o0 = some (.inl 1)) (h0 : (s1 + s0) ≤ 1200 → T 0 0 26 [.ref o0, .int x5, .int 1836019574] Z (aj_u2 I o0 5 0) G (fun r Z1 I1 G1 => J 136 [some (.ref o0), some (.int x1), w2, some (.int x3), some (.int x4), some (.int x5), some (.int x6), some (.int (s1 + s0)), w8, w9] (r.toList ++ []) Z1 I1 G1 C)) (h1 : ¬ (s1 + s0) ≤ 1200 → Q (some (.int 0)) Z I G) : J 110 [some (.ref o0), some (.int x1), w2, some (.int x3), some (.int x4), some (.int x5), some (.int x6), w7, w8, w9] [.int s0, .int s1] Z I G C := by
  refine s_iadd hJ d_40_110 ?_
  refine s_istore hJ d_40_111 (Nat.le_of_ble_eq_true rfl) ?_
  refine s_iload hJ d_40_113 rfl ?_
  refine s_sipush (v := 1200) hJ d_40_115 (by decide) ?_
  refine s_icmp_le (tgt := 123) hJ d_40_118 rfl (fun c0 => ?_) (fun c0 => ?_)
  · skip
    refine s_aload_n hJ d_40_123 rfl ?_
    refine s_iconst_0 hJ d_40_124 ?_
    refine s_puti hJ lf_1_71 rfl d_40_125 k0 ?_
    refine s_aload_n hJ d_40_128 rfl ?_
    refine s_iload hJ d_40_129 rfl ?_
    refine s_ldc hJ lc_1_118 d_40_131 ?_
    exact s_V2 hJ lm_1_99 d_40_133 (Nat.le_of_ble_eq_true rfl) k0 (h0 c0)
  · skip
    refine s_iconst_0 hJ d_40_121 ?_
    exact s_iret hJ d_40_122 rfl rfl (h1 c0)
set_option maxRecDepth 4000 in
theorem b_40_136 {mc ms : Nat} {X : Option (Nat × (Nat → Int32))} {T : aj_Tt} {Q : aj_Q} {J : aj_J} (hJ : aj_Cl 1 c_40 (some .int) false mc ms X T Q J) {o0 : Nat} {x1 : Int32} {w2 : Option Value} {x3 : Int32} {x4 : Int32} {x5 : Int32} {x6 : Int32} {x7 : Int32} {w8 : Option Value} {w9 : Option Value} {Z : aj_Z} {I : aj_I} {G : aj_G} {C : Nat × Nat} (h0 : J 139 [some (.ref o0), some (.int x1), w2, some (.int x3), some (.int x4), some (.int x5), some (.int x6), some (.int x7), some (.int 0), w9] [] Z I G C) : J 136 [some (.ref o0), some (.int x1), w2, some (.int x3), some (.int x4), some (.int x5), some (.int x6), some (.int x7), w8, w9] [] Z I G C := by
  refine s_iconst_0 hJ d_40_136 ?_
  refine s_istore hJ d_40_137 (Nat.le_of_ble_eq_true rfl) ?_
  exact h0
set_option maxRecDepth 4000 in
theorem b_40_139 {mc ms : Nat} {X : Option (Nat × (Nat → Int32))} {T : aj_Tt} {Q : aj_Q} {J : aj_J} (hJ : aj_Cl 1 c_40 (some .int) false mc ms X T Q J) {o0 : Nat} {x1 : Int32} {w2 : Option Value} {x3 : Int32} {x4 : Int32} {x5 : Int32} {x6 : Int32} {x7 : Int32} {x8 : Int32} {w9 : Option Value} {Z : aj_Z} {I : aj_I} {G : aj_G} {C : Nat × Nat} (k0 : Z.2.1 o0 = some (.inl 1)) (h0 : (I o0 0) ≤ x8 → x4 = 0 → T 0 0 26 [.ref o0, .int (x7 - x5), .int 1835295092] Z I G (fun r Z1 I1 G1 => J 232 [some (.ref o0), some (.int x1), w2, some (.int x3), some (.int x4), some (.int x5), some (.int x6), some (.int x7), some (.int x8), w9] (r.toList ++ []) Z1 I1 G1 C)) (h1 : (I o0 0) ≤ x8 → ¬ x4 = 0 → T 0 0 26 [.ref o0, .int 1, .int 1835295092] Z I G (fun r Z1 I1 G1 => J 232 [some (.ref o0), some (.int x1), w2, some (.int x3), some (.int x4), some (.int x5), some (.int x6), some (.int x7), some (.int x8), w9] (r.toList ++ []) Z1 I1 G1 C)) (h2 : ¬ (I o0 0) ≤ x8 → T 0 0 31 [.ref o0, .int x8, .int x1, .int x3] Z I G (fun r Z1 I1 G1 => J 156 [some (.ref o0), some (.int x1), w2, some (.int x3), some (.int x4), some (.int x5), some (.int x6), some (.int x7), some (.int x8), w9] (r.toList ++ []) Z1 I1 G1 C)) : J 139 [some (.ref o0), some (.int x1), w2, some (.int x3), some (.int x4), some (.int x5), some (.int x6), some (.int x7), some (.int x8), w9] [] Z I G C := by
  refine s_iload hJ d_40_139 rfl ?_
  refine s_aload_n hJ d_40_141 rfl ?_
  refine s_geti hJ lf_1_64 rfl d_40_142 k0 ?_
  refine s_icmp_ge (tgt := 212) hJ d_40_145 rfl (fun c0 => ?_) (fun c0 => ?_)
  · skip
    refine s_aload_n hJ d_40_212 rfl ?_
    refine s_iload hJ d_40_213 rfl ?_
    refine s_if_eq (tgt := 222) hJ d_40_215 rfl (fun c1 => ?_) (fun c1 => ?_)
    · skip
      refine s_iload hJ d_40_222 rfl ?_
      refine s_iload hJ d_40_224 rfl ?_
      refine s_isub hJ d_40_226 ?_
      refine s_ldc hJ lc_1_135 d_40_227 ?_
      exact s_V2 hJ lm_1_99 d_40_229 (Nat.le_of_ble_eq_true rfl) k0 (h0 c0 c1)
    · skip
      refine s_iconst_1 hJ d_40_218 ?_
      refine s_goto (tgt := 227) hJ d_40_219 rfl ?_
      refine s_ldc hJ lc_1_135 d_40_227 ?_
      exact s_V2 hJ lm_1_99 d_40_229 (Nat.le_of_ble_eq_true rfl) k0 (h1 c0 c1)
  · skip
    refine s_aload_n hJ d_40_148 rfl ?_
    refine s_iload hJ d_40_149 rfl ?_
    refine s_iload_n hJ d_40_151 rfl ?_
    refine s_iload_n hJ d_40_152 rfl ?_
    exact s_V3 hJ lm_1_110 d_40_153 (Nat.le_of_ble_eq_true rfl) k0 (h2 c0)
set_option maxRecDepth 4000 in
theorem b_40_156 {mc ms : Nat} {X : Option (Nat × (Nat → Int32))} {T : aj_Tt} {Q : aj_Q} {J : aj_J} (hJ : aj_Cl 1 c_40 (some .int) false mc ms X T Q J) {o0 : Nat} {x1 : Int32} {w2 : Option Value} {x3 : Int32} {x4 : Int32} {x5 : Int32} {x6 : Int32} {x7 : Int32} {x8 : Int32} {w9 : Option Value} {s0 : Int32} {Z : aj_Z} {I : aj_I} {G : aj_G} {C : Nat × Nat} (k0 : Z.2.1 o0 = some (.inl 1)) (h0 : T 0 0 26 [.ref o0, .int (8 + s0), .int 1953653099] Z I G (fun r Z1 I1 G1 => J 169 [some (.ref o0), some (.int x1), w2, some (.int x3), some (.int x4), some (.int x5), some (.int x6), some (.int x7), some (.int x8), some (.int s0)] (r.toList ++ []) Z1 I1 G1 C)) : J 156 [some (.ref o0), some (.int x1), w2, some (.int x3), some (.int x4), some (.int x5), some (.int x6), some (.int x7), some (.int x8), w9] [.int s0] Z I G C := by
  refine s_istore hJ d_40_156 (Nat.le_of_ble_eq_true rfl) ?_
  refine s_aload_n hJ d_40_158 rfl ?_
  refine s_bipush (v := 8) hJ d_40_159 (by decide) ?_
  refine s_iload hJ d_40_161 rfl ?_
  refine s_iadd hJ d_40_163 ?_
  refine s_ldc hJ lc_1_119 d_40_164 ?_
  exact s_V2 hJ lm_1_99 d_40_166 (Nat.le_of_ble_eq_true rfl) k0 (h0)
set_option maxRecDepth 4000 in
theorem b_40_169 {mc ms : Nat} {X : Option (Nat × (Nat → Int32))} {T : aj_Tt} {Q : aj_Q} {J : aj_J} (hJ : aj_Cl 1 c_40 (some .int) false mc ms X T Q J) {o0 : Nat} {x1 : Int32} {w2 : Option Value} {x3 : Int32} {x4 : Int32} {x5 : Int32} {x6 : Int32} {x7 : Int32} {x8 : Int32} {x9 : Int32} {Z : aj_Z} {I : aj_I} {G : aj_G} {C : Nat × Nat} (k0 : Z.2.1 o0 = some (.inl 1)) (h0 : T 0 0 26 [.ref o0, .int x9, .int 1937007212] Z I G (fun r Z1 I1 G1 => J 177 [some (.ref o0), some (.int x1), w2, some (.int x3), some (.int x4), some (.int x5), some (.int x6), some (.int x7), some (.int x8), some (.int x9)] (r.toList ++ []) Z1 I1 G1 C)) : J 169 [some (.ref o0), some (.int x1), w2, some (.int x3), some (.int x4), some (.int x5), some (.int x6), some (.int x7), some (.int x8), some (.int x9)] [] Z I G C := by
  refine s_aload_n hJ d_40_169 rfl ?_
  refine s_iload hJ d_40_170 rfl ?_
  refine s_ldc hJ lc_1_120 d_40_172 ?_
  exact s_V2 hJ lm_1_99 d_40_174 (Nat.le_of_ble_eq_true rfl) k0 (h0)
set_option maxRecDepth 4000 in
theorem b_40_177 {mc ms : Nat} {X : Option (Nat × (Nat → Int32))} {T : aj_Tt} {Q : aj_Q} {J : aj_J} (hJ : aj_Cl 1 c_40 (some .int) false mc ms X T Q J) {o0 : Nat} {x1 : Int32} {w2 : Option Value} {x3 : Int32} {x4 : Int32} {x5 : Int32} {x6 : Int32} {x7 : Int32} {x8 : Int32} {w9 : Option Value} {Z : aj_Z} {I : aj_I} {G : aj_G} {C : Nat × Nat} (k0 : Z.2.1 o0 = some (.inl 1)) (h0 : T 0 0 34 [.ref o0, .int x8] Z I G (fun r Z1 I1 G1 => J 183 [some (.ref o0), some (.int x1), w2, some (.int x3), some (.int x4), some (.int x5), some (.int x6), some (.int x7), some (.int x8), w9] (r.toList ++ []) Z1 I1 G1 C)) : J 177 [some (.ref o0), some (.int x1), w2, some (.int x3), some (.int x4), some (.int x5), some (.int x6), some (.int x7), some (.int x8), w9] [] Z I G C := by
  refine s_aload_n hJ d_40_177 rfl ?_
  refine s_iload hJ d_40_178 rfl ?_
  exact s_V1 hJ lm_1_121 d_40_180 (Nat.le_of_ble_eq_true rfl) k0 (h0)
set_option maxRecDepth 4000 in
theorem b_40_183 {mc ms : Nat} {X : Option (Nat × (Nat → Int32))} {T : aj_Tt} {Q : aj_Q} {J : aj_J} (hJ : aj_Cl 1 c_40 (some .int) false mc ms X T Q J) {o0 : Nat} {x1 : Int32} {w2 : Option Value} {x3 : Int32} {x4 : Int32} {x5 : Int32} {x6 : Int32} {x7 : Int32} {x8 : Int32} {w9 : Option Value} {Z : aj_Z} {I : aj_I} {G : aj_G} {C : Nat × Nat} (k0 : Z.2.1 o0 = some (.inl 1)) (h0 : T 0 0 35 [.ref o0, .int x8, .int x1] Z I G (fun r Z1 I1 G1 => J 190 [some (.ref o0), some (.int x1), w2, some (.int x3), some (.int x4), some (.int x5), some (.int x6), some (.int x7), some (.int x8), w9] (r.toList ++ []) Z1 I1 G1 C)) : J 183 [some (.ref o0), some (.int x1), w2, some (.int x3), some (.int x4), some (.int x5), some (.int x6), some (.int x7), some (.int x8), w9] [] Z I G C := by
  refine s_aload_n hJ d_40_183 rfl ?_
  refine s_iload hJ d_40_184 rfl ?_
  refine s_iload_n hJ d_40_186 rfl ?_
  exact s_V2 hJ lm_1_125 d_40_187 (Nat.le_of_ble_eq_true rfl) k0 (h0)
set_option maxRecDepth 4000 in
theorem b_40_190 {mc ms : Nat} {X : Option (Nat × (Nat → Int32))} {T : aj_Tt} {Q : aj_Q} {J : aj_J} (hJ : aj_Cl 1 c_40 (some .int) false mc ms X T Q J) {o0 : Nat} {x1 : Int32} {w2 : Option Value} {x3 : Int32} {x4 : Int32} {x5 : Int32} {x6 : Int32} {x7 : Int32} {x8 : Int32} {w9 : Option Value} {Z : aj_Z} {I : aj_I} {G : aj_G} {C : Nat × Nat} (k0 : Z.2.1 o0 = some (.inl 1)) (h0 : T 0 0 36 [.ref o0, .int x8] Z I G (fun r Z1 I1 G1 => J 196 [some (.ref o0), some (.int x1), w2, some (.int x3), some (.int x4), some (.int x5), some (.int x6), some (.int x7), some (.int x8), w9] (r.toList ++ []) Z1 I1 G1 C)) : J 190 [some (.ref o0), some (.int x1), w2, some (.int x3), some (.int x4), some (.int x5), some (.int x6), some (.int x7), some (.int x8), w9] [] Z I G C := by
  refine s_aload_n hJ d_40_190 rfl ?_
  refine s_iload hJ d_40_191 rfl ?_
  exact s_V1 hJ lm_1_128 d_40_193 (Nat.le_of_ble_eq_true rfl) k0 (h0)
set_option maxRecDepth 4000 in
theorem b_40_196 {mc ms : Nat} {X : Option (Nat × (Nat → Int32))} {T : aj_Tt} {Q : aj_Q} {J : aj_J} (hJ : aj_Cl 1 c_40 (some .int) false mc ms X T Q J) {o0 : Nat} {x1 : Int32} {w2 : Option Value} {x3 : Int32} {x4 : Int32} {x5 : Int32} {x6 : Int32} {x7 : Int32} {x8 : Int32} {w9 : Option Value} {Z : aj_Z} {I : aj_I} {G : aj_G} {C : Nat × Nat} (k0 : Z.2.1 o0 = some (.inl 1)) (h0 : T 0 0 37 [.ref o0, .int x8, .int x1, .int x3, .int x6] Z I G (fun r Z1 I1 G1 => J 206 [some (.ref o0), some (.int x1), w2, some (.int x3), some (.int x4), some (.int x5), some (.int x6), some (.int x7), some (.int x8), w9] (r.toList ++ []) Z1 I1 G1 C)) : J 196 [some (.ref o0), some (.int x1), w2, some (.int x3), some (.int x4), some (.int x5), some (.int x6), some (.int x7), some (.int x8), w9] [] Z I G C := by
  refine s_aload_n hJ d_40_196 rfl ?_
  refine s_iload hJ d_40_197 rfl ?_
  refine s_iload_n hJ d_40_199 rfl ?_
  refine s_iload_n hJ d_40_200 rfl ?_
  refine s_iload hJ d_40_201 rfl ?_
  exact s_V4 hJ lm_1_131 d_40_203 (Nat.le_of_ble_eq_true rfl) k0 (h0)
set_option maxRecDepth 4000 in
theorem b_40_206 {mc ms : Nat} {X : Option (Nat × (Nat → Int32))} {T : aj_Tt} {Q : aj_Q} {J : aj_J} (hJ : aj_Cl 1 c_40 (some .int) false mc ms X T Q J) {o0 : Nat} {x1 : Int32} {w2 : Option Value} {x3 : Int32} {x4 : Int32} {x5 : Int32} {x6 : Int32} {x7 : Int32} {x8 : Int32} {w9 : Option Value} {Z : aj_Z} {I : aj_I} {G : aj_G} {C : Nat × Nat} (h0 : J 139 [some (.ref o0), some (.int x1), w2, some (.int x3), some (.int x4), some (.int x5), some (.int x6), some (.int x7), some (.int (x8 + 1)), w9] [] Z I G C) : J 206 [some (.ref o0), some (.int x1), w2, some (.int x3), some (.int x4), some (.int x5), some (.int x6), some (.int x7), some (.int x8), w9] [] Z I G C := by
  refine s_iinc (v := 1) hJ d_40_206 rfl (by decide) ?_
  refine s_goto (tgt := 139) hJ d_40_209 rfl ?_
  exact h0
set_option maxRecDepth 4000 in
theorem b_40_232 {mc ms : Nat} {X : Option (Nat × (Nat → Int32))} {T : aj_Tt} {Q : aj_Q} {J : aj_J} (hJ : aj_Cl 1 c_40 (some .int) false mc ms X T Q J) {o0 : Nat} {x1 : Int32} {w2 : Option Value} {w3 : Option Value} {x4 : Int32} {x5 : Int32} {w6 : Option Value} {x7 : Int32} {w8 : Option Value} {w9 : Option Value} {Z : aj_Z} {I : aj_I} {G : aj_G} {C : Nat × Nat} (h0 : x4 = 0 → J 249 [some (.ref o0), some (.int x1), w2, w3, some (.int x4), some (.int x5), w6, some (.int x7), w8, w9] [] Z I G C) (k0 : Z.2.1 o0 = some (.inl 1)) (h1 : ¬ x4 = 0 → T 0 0 25 [.ref o0, .long (Int32.toInt64 (x7 - x5)), .int 8] Z I G (fun r Z1 I1 G1 => J 249 [some (.ref o0), some (.int x1), w2, w3, some (.int x4), some (.int x5), w6, some (.int x7), w8, w9] (r.toList ++ []) Z1 I1 G1 C)) : J 232 [some (.ref o0), some (.int x1), w2, w3, some (.int x4), some (.int x5), w6, some (.int x7), w8, w9] [] Z I G C := by
  refine s_iload hJ d_40_232 rfl ?_
  refine s_if_eq (tgt := 249) hJ d_40_234 rfl (fun c0 => ?_) (fun c0 => ?_)
  · skip
    exact h0 c0
  · skip
    refine s_aload_n hJ d_40_237 rfl ?_
    refine s_iload hJ d_40_238 rfl ?_
    refine s_iload hJ d_40_240 rfl ?_
    refine s_isub hJ d_40_242 ?_
    refine s_i2l hJ d_40_243 ?_
    refine s_bipush (v := 8) hJ d_40_244 (by decide) ?_
    exact s_V2 hJ lm_1_76 d_40_246 (Nat.le_of_ble_eq_true rfl) k0 (h1 c0)
set_option maxRecDepth 4000 in
theorem b_40_249 {mc ms : Nat} {X : Option (Nat × (Nat → Int32))} {T : aj_Tt} {Q : aj_Q} {J : aj_J} (hJ : aj_Cl 1 c_40 (some .int) false mc ms X T Q J) {o0 : Nat} {x1 : Int32} {w2 : Option Value} {w3 : Option Value} {w4 : Option Value} {w5 : Option Value} {w6 : Option Value} {x7 : Int32} {w8 : Option Value} {w9 : Option Value} {Z : aj_Z} {I : aj_I} {G : aj_G} {C : Nat × Nat} (k0 : Z.2.1 o0 = some (.inl 1)) (h0 : T 0 0 39 [.ref o0, .int x1] Z I G (fun r Z1 I1 G1 => J 254 [some (.ref o0), some (.int x1), w2, w3, w4, w5, w6, some (.int x7), w8, w9] (r.toList ++ []) Z1 I1 G1 C)) : J 249 [some (.ref o0), some (.int x1), w2, w3, w4, w5, w6, some (.int x7), w8, w9] [] Z I G C := by
  refine s_aload_n hJ d_40_249 rfl ?_
  refine s_iload_n hJ d_40_250 rfl ?_
  exact s_V1 hJ lm_1_136 d_40_251 (Nat.le_of_ble_eq_true rfl) k0 (h0)
set_option maxRecDepth 4000 in
theorem b_40_254 {mc ms : Nat} {X : Option (Nat × (Nat → Int32))} {T : aj_Tt} {Q : aj_Q} {J : aj_J} (hJ : aj_Cl 1 c_40 (some .int) false mc ms X T Q J) {w0 : Option Value} {w1 : Option Value} {w2 : Option Value} {w3 : Option Value} {w4 : Option Value} {w5 : Option Value} {w6 : Option Value} {x7 : Int32} {w8 : Option Value} {w9 : Option Value} {Z : aj_Z} {I : aj_I} {G : aj_G} {C : Nat × Nat} (h0 : Q (some (.int x7)) Z I G) : J 254 [w0, w1, w2, w3, w4, w5, w6, some (.int x7), w8, w9] [] Z I G C := by
  refine s_iload hJ d_40_254 rfl ?_
  exact s_iret hJ d_40_256 rfl rfl (h0)
-- ReelOfBoxesModel.numberAt(II)J : method 41
theorem d_41_0 : decode c_41 0 = .ok (.lconst 0, 1) := by decide +kernel
theorem d_41_1 : decode c_41 1 = .ok (.lstore_n 3, 1) := by decide +kernel
theorem d_41_2 : decode c_41 2 = .ok (.iconst (0), 1) := by decide +kernel
theorem d_41_3 : decode c_41 3 = .ok (.istore 5, 2) := by decide +kernel
theorem d_41_5 : decode c_41 5 = .ok (.iload 5, 2) := by decide +kernel
theorem d_41_7 : decode c_41 7 = .ok (.iload_n 2, 1) := by decide +kernel
theorem d_41_8 : decode c_41 8 = .ok (.if_icmp .ge (25), 3) := by decide +kernel
theorem d_41_11 : decode c_41 11 = .ok (.lload_n 3, 1) := by decide +kernel
theorem d_41_12 : decode c_41 12 = .ok (.bipush (8), 2) := by decide +kernel
theorem d_41_14 : decode c_41 14 = .ok (.lshl, 1) := by decide +kernel
theorem d_41_15 : decode c_41 15 = .ok (.aload_n 0, 1) := by decide +kernel
theorem d_41_16 : decode c_41 16 = .ok (.getfield 23, 3) := by decide +kernel
theorem d_41_19 : decode c_41 19 = .ok (.iload_n 1, 1) := by decide +kernel
theorem d_41_20 : decode c_41 20 = .ok (.iload 5, 2) := by decide +kernel
theorem d_41_22 : decode c_41 22 = .ok (.iadd, 1) := by decide +kernel
theorem d_41_23 : decode c_41 23 = .ok (.iaload, 1) := by decide +kernel
theorem d_41_24 : decode c_41 24 = .ok (.i2l, 1) := by decide +kernel
theorem d_41_25 : decode c_41 25 = .ok (.lor, 1) := by decide +kernel
theorem d_41_26 : decode c_41 26 = .ok (.lstore_n 3, 1) := by decide +kernel
theorem d_41_27 : decode c_41 27 = .ok (.iinc 5 (1), 3) := by decide +kernel
theorem d_41_30 : decode c_41 30 = .ok (.goto (-25), 3) := by decide +kernel
theorem d_41_33 : decode c_41 33 = .ok (.lload_n 3, 1) := by decide +kernel
theorem d_41_34 : decode c_41 34 = .ok (.lreturn, 1) := by decide +kernel
set_option maxRecDepth 4000 in
theorem b_41_0 {mc ms : Nat} {X : Option (Nat × (Nat → Int32))} {T : aj_Tt} {Q : aj_Q} {J : aj_J} (hJ : aj_Cl 1 c_41 (some .long) false mc ms X T Q J) {o0 : Nat} {x1 : Int32} {x2 : Int32} {Z : aj_Z} {I : aj_I} {G : aj_G} {C : Nat × Nat} (h0 : J 5 [some (.ref o0), some (.int x1), some (.int x2), some (.long 0), none, some (.int 0)] [] Z I G C) : J 0 [some (.ref o0), some (.int x1), some (.int x2), none, none, none] [] Z I G C := by
  refine s_lconst_0 hJ d_41_0 ?_
  refine s_lstore_n hJ d_41_1 (Nat.le_of_ble_eq_true rfl) ?_
  refine s_iconst_0 hJ d_41_2 ?_
  refine s_istore hJ d_41_3 (Nat.le_of_ble_eq_true rfl) ?_
  exact h0
set_option maxRecDepth 4000 in
theorem b_41_5 {mc ms : Nat} {X : Option (Nat × (Nat → Int32))} {T : aj_Tt} {Q : aj_Q} {J : aj_J} (hJ : aj_Cl 1 c_41 (some .long) false mc ms X T Q J) {o0 : Nat} {x1 : Int32} {x2 : Int32} {x3 : Int64} {w4 : Option Value} {x5 : Int32} {q0 : Nat} {nk1 : Nat} {Z : aj_Z} {I : aj_I} {G : aj_G} {C : Nat × Nat} (h0 : x2 ≤ x5 → Q (some (.long x3)) Z I G) (k0 : Z.2.1 o0 = some (.inl 1)) (r0 : Z.2.2 o0 6 = .ref q0) (k1 : Z.2.1 q0 = some (.inr (0, nk1))) (h1 : ¬ x2 ≤ x5 → vp_in (x1 + x5) nk1) (h2 : ¬ x2 ≤ x5 → J 5 [some (.ref o0), some (.int x1), some (.int x2), some (.long ((x3 <<< (Int32.toInt64 8 &&& 63)) ||| (Int32.toInt64 (I q0 (Int32.toNatClampNeg (x1 + x5)))))), none, some (.int (x5 + 1))] [] Z I G C) : J 5 [some (.ref o0), some (.int x1), some (.int x2), some (.long x3), w4, some (.int x5)] [] Z I G C := by
  refine s_iload hJ d_41_5 rfl ?_
  refine s_iload_n hJ d_41_7 rfl ?_
  refine s_icmp_ge (tgt := 33) hJ d_41_8 rfl (fun c0 => ?_) (fun c0 => ?_)
  · skip
    refine s_lload_n hJ d_41_33 rfl ?_
    exact s_lret hJ d_41_34 rfl (h0 c0)
  · skip
    refine s_lload_n hJ d_41_11 rfl ?_
    refine s_bipush (v := 8) hJ d_41_12 (by decide) ?_
    refine s_lshl hJ d_41_14 ?_
    refine s_aload_n hJ d_41_15 rfl ?_
    refine s_getr hJ lf_1_23 rfl d_41_16 k0 r0 ?_
    refine s_iload_n hJ d_41_19 rfl ?_
    refine s_iload hJ d_41_20 rfl ?_
    refine s_iadd hJ d_41_22 ?_
    refine s_iald hJ d_41_23 k1 (h1 c0) ?_
    refine s_i2l hJ d_41_24 ?_
    refine s_lor hJ d_41_25 ?_
    refine s_lstore_n hJ d_41_26 (Nat.le_of_ble_eq_true rfl) ?_
    refine s_iinc (v := 1) hJ d_41_27 rfl (by decide) ?_
    refine s_goto (tgt := 5) hJ d_41_30 rfl ?_
    exact h2 c0
-- ReelOfBoxesModel.readHead(II)Z : method 42
theorem d_42_0 : decode c_42 0 = .ok (.iload_n 2, 1) := by decide +kernel
theorem d_42_1 : decode c_42 1 = .ok (.iload_n 1, 1) := by decide +kernel
theorem d_42_2 : decode c_42 2 = .ok (.isub, 1) := by decide +kernel
theorem d_42_3 : decode c_42 3 = .ok (.bipush (8), 2) := by decide +kernel
theorem d_42_5 : decode c_42 5 = .ok (.if_icmp .ge (5), 3) := by decide +kernel
theorem d_42_8 : decode c_42 8 = .ok (.iconst (0), 1) := by decide +kernel
theorem d_42_9 : decode c_42 9 = .ok (.ireturn, 1) := by decide +kernel
theorem d_42_10 : decode c_42 10 = .ok (.aload_n 0, 1) := by decide +kernel
theorem d_42_11 : decode c_42 11 = .ok (.iload_n 1, 1) := by decide +kernel
theorem d_42_12 : decode c_42 12 = .ok (.iconst (4), 1) := by decide +kernel
theorem d_42_13 : decode c_42 13 = .ok (.invokevirtual 139, 3) := by decide +kernel
theorem d_42_16 : decode c_42 16 = .ok (.lstore_n 3, 1) := by decide +kernel
theorem d_42_17 : decode c_42 17 = .ok (.aload_n 0, 1) := by decide +kernel
theorem d_42_18 : decode c_42 18 = .ok (.aload_n 0, 1) := by decide +kernel
theorem d_42_19 : decode c_42 19 = .ok (.iload_n 1, 1) := by decide +kernel
theorem d_42_20 : decode c_42 20 = .ok (.iconst (4), 1) := by decide +kernel
theorem d_42_21 : decode c_42 21 = .ok (.iadd, 1) := by decide +kernel
theorem d_42_22 : decode c_42 22 = .ok (.iconst (4), 1) := by decide +kernel
theorem d_42_23 : decode c_42 23 = .ok (.invokevirtual 139, 3) := by decide +kernel
theorem d_42_26 : decode c_42 26 = .ok (.l2i, 1) := by decide +kernel
theorem d_42_27 : decode c_42 27 = .ok (.putfield 143, 3) := by decide +kernel
theorem d_42_30 : decode c_42 30 = .ok (.aload_n 0, 1) := by decide +kernel
theorem d_42_31 : decode c_42 31 = .ok (.iload_n 1, 1) := by decide +kernel
theorem d_42_32 : decode c_42 32 = .ok (.bipush (8), 2) := by decide +kernel
theorem d_42_34 : decode c_42 34 = .ok (.iadd, 1) := by decide +kernel
theorem d_42_35 : decode c_42 35 = .ok (.putfield 146, 3) := by decide +kernel
theorem d_42_38 : decode c_42 38 = .ok (.lload_n 3, 1) := by decide +kernel
theorem d_42_39 : decode c_42 39 = .ok (.lconst 1, 1) := by decide +kernel
theorem d_42_40 : decode c_42 40 = .ok (.lcmp, 1) := by decide +kernel
theorem d_42_41 : decode c_42 41 = .ok (.ifCond .ne (32), 3) := by decide +kernel
theorem d_42_44 : decode c_42 44 = .ok (.iload_n 2, 1) := by decide +kernel
theorem d_42_45 : decode c_42 45 = .ok (.iload_n 1, 1) := by decide +kernel
theorem d_42_46 : decode c_42 46 = .ok (.isub, 1) := by decide +kernel
theorem d_42_47 : decode c_42 47 = .ok (.bipush (16), 2) := by decide +kernel
theorem d_42_49 : decode c_42 49 = .ok (.if_icmp .ge (5), 3) := by decide +kernel
theorem d_42_52 : decode c_42 52 = .ok (.iconst (0), 1) := by decide +kernel
theorem d_42_53 : decode c_42 53 = .ok (.ireturn, 1) := by decide +kernel
theorem d_42_54 : decode c_42 54 = .ok (.aload_n 0, 1) := by decide +kernel
theorem d_42_55 : decode c_42 55 = .ok (.iload_n 1, 1) := by decide +kernel
theorem d_42_56 : decode c_42 56 = .ok (.bipush (8), 2) := by decide +kernel
theorem d_42_58 : decode c_42 58 = .ok (.iadd, 1) := by decide +kernel
theorem d_42_59 : decode c_42 59 = .ok (.bipush (8), 2) := by decide +kernel
theorem d_42_61 : decode c_42 61 = .ok (.invokevirtual 139, 3) := by decide +kernel
theorem d_42_64 : decode c_42 64 = .ok (.lstore_n 3, 1) := by decide +kernel
theorem d_42_65 : decode c_42 65 = .ok (.aload_n 0, 1) := by decide +kernel
theorem d_42_66 : decode c_42 66 = .ok (.iload_n 1, 1) := by decide +kernel
theorem d_42_67 : decode c_42 67 = .ok (.bipush (16), 2) := by decide +kernel
theorem d_42_69 : decode c_42 69 = .ok (.iadd, 1) := by decide +kernel
theorem d_42_70 : decode c_42 70 = .ok (.putfield 146, 3) := by decide +kernel
theorem d_42_73 : decode c_42 73 = .ok (.lload_n 3, 1) := by decide +kernel
theorem d_42_74 : decode c_42 74 = .ok (.aload_n 0, 1) := by decide +kernel
theorem d_42_75 : decode c_42 75 = .ok (.getfield 146, 3) := by decide +kernel
theorem d_42_78 : decode c_42 78 = .ok (.iload_n 1, 1) := by decide +kernel
theorem d_42_79 : decode c_42 79 = .ok (.isub, 1) := by decide +kernel
theorem d_42_80 : decode c_42 80 = .ok (.i2l, 1) := by decide +kernel
theorem d_42_81 : decode c_42 81 = .ok (.lcmp, 1) := by decide +kernel
theorem d_42_82 : decode c_42 82 = .ok (.ifCond .lt (12), 3) := by decide +kernel
theorem d_42_85 : decode c_42 85 = .ok (.lload_n 3, 1) := by decide +kernel
theorem d_42_86 : decode c_42 86 = .ok (.iload_n 2, 1) := by decide +kernel
theorem d_42_87 : decode c_42 87 = .ok (.iload_n 1, 1) := by decide +kernel
theorem d_42_88 : decode c_42 88 = .ok (.isub, 1) := by decide +kernel
theorem d_42_89 : decode c_42 89 = .ok (.i2l, 1) := by decide +kernel
theorem d_42_90 : decode c_42 90 = .ok (.lcmp, 1) := by decide +kernel
theorem d_42_91 : decode c_42 91 = .ok (.ifCond .le (5), 3) := by decide +kernel
theorem d_42_94 : decode c_42 94 = .ok (.iconst (0), 1) := by decide +kernel
theorem d_42_95 : decode c_42 95 = .ok (.ireturn, 1) := by decide +kernel
theorem d_42_96 : decode c_42 96 = .ok (.aload_n 0, 1) := by decide +kernel
theorem d_42_97 : decode c_42 97 = .ok (.iload_n 1, 1) := by decide +kernel
theorem d_42_98 : decode c_42 98 = .ok (.lload_n 3, 1) := by decide +kernel
theorem d_42_99 : decode c_42 99 = .ok (.l2i, 1) := by decide +kernel
theorem d_42_100 : decode c_42 100 = .ok (.iadd, 1) := by decide +kernel
theorem d_42_101 : decode c_42 101 = .ok (.putfield 149, 3) := by decide +kernel
theorem d_42_104 : decode c_42 104 = .ok (.iconst (1), 1) := by decide +kernel
theorem d_42_105 : decode c_42 105 = .ok (.ireturn, 1) := by decide +kernel
set_option maxRecDepth 4000 in
theorem b_42_0 {mc ms : Nat} {X : Option (Nat × (Nat → Int32))} {T : aj_Tt} {Q : aj_Q} {J : aj_J} (hJ : aj_Cl 1 c_42 (some .boolean) false mc ms X T Q J) {o0 : Nat} {x1 : Int32} {x2 : Int32} {Z : aj_Z} {I : aj_I} {G : aj_G} {C : Nat × Nat} (k0 : Z.2.1 o0 = some (.inl 1)) (h0 : 8 ≤ (x2 - x1) → T 0 0 41 [.ref o0, .int x1, .int 4] Z I G (fun r Z1 I1 G1 => J 16 [some (.ref o0), some (.int x1), some (.int x2), none, none] (r.toList ++ []) Z1 I1 G1 C)) (h1 : ¬ 8 ≤ (x2 - x1) → Q (some (.int 0)) Z I G) : J 0 [some (.ref o0), some (.int x1), some (.int x2), none, none] [] Z I G C := by
  refine s_iload_n hJ d_42_0 rfl ?_
  refine s_iload_n hJ d_42_1 rfl ?_
  refine s_isub hJ d_42_2 ?_
  refine s_bipush (v := 8) hJ d_42_3 (by decide) ?_
  refine s_icmp_ge (tgt := 10) hJ d_42_5 rfl (fun c0 => ?_) (fun c0 => ?_)
  · skip
    refine s_aload_n hJ d_42_10 rfl ?_
    refine s_iload_n hJ d_42_11 rfl ?_
    refine s_iconst_4 hJ d_42_12 ?_
    exact s_V2 hJ lm_1_139 d_42_13 (Nat.le_of_ble_eq_true rfl) k0 (h0 c0)
  · skip
    refine s_iconst_0 hJ d_42_8 ?_
    exact s_iret hJ d_42_9 rfl rfl (h1 c0)
set_option maxRecDepth 4000 in
theorem b_42_16 {mc ms : Nat} {X : Option (Nat × (Nat → Int32))} {T : aj_Tt} {Q : aj_Q} {J : aj_J} (hJ : aj_Cl 1 c_42 (some .boolean) false mc ms X T Q J) {o0 : Nat} {x1 : Int32} {x2 : Int32} {w3 : Option Value} {w4 : Option Value} {s0 : Int64} {Z : aj_Z} {I : aj_I} {G : aj_G} {C : Nat × Nat} (k0 : Z.2.1 o0 = some (.inl 1)) (h0 : T 0 0 41 [.ref o0, .int (x1 + 4), .int 4] Z I G (fun r Z1 I1 G1 => J 26 [some (.ref o0), some (.int x1), some (.int x2), some (.long s0), none] (r.toList ++ [.ref o0]) Z1 I1 G1 C)) : J 16 [some (.ref o0), some (.int x1), some (.int x2), w3, w4] [.long s0] Z I G C := by
  refine s_lstore_n hJ d_42_16 (Nat.le_of_ble_eq_true rfl) ?_
  refine s_aload_n hJ d_42_17 rfl ?_
  refine s_aload_n hJ d_42_18 rfl ?_
  refine s_iload_n hJ d_42_19 rfl ?_
  refine s_iconst_4 hJ d_42_20 ?_
  refine s_iadd hJ d_42_21 ?_
  refine s_iconst_4 hJ d_42_22 ?_
  exact s_V2 hJ lm_1_139 d_42_23 (Nat.le_of_ble_eq_true rfl) k0 (h0)
set_option maxRecDepth 4000 in
theorem b_42_26 {mc ms : Nat} {X : Option (Nat × (Nat → Int32))} {T : aj_Tt} {Q : aj_Q} {J : aj_J} (hJ : aj_Cl 1 c_42 (some .boolean) false mc ms X T Q J) {o0 : Nat} {x1 : Int32} {x2 : Int32} {x3 : Int64} {w4 : Option Value} {s0 : Int64} {s1 : Nat} {Z : aj_Z} {I : aj_I} {G : aj_G} {C : Nat × Nat} (k0 : Z.2.1 s1 = some (.inl 1)) (k1 : Z.2.1 o0 = some (.inl 1)) (h0 : ¬ x3 = 1 → J 73 [some (.ref o0), some (.int x1), some (.int x2), some (.long x3), w4] [] Z (aj_u2 (aj_u2 I s1 21 (Int64.toInt32 s0)) o0 22 (x1 + 8)) G C) (h1 : x3 = 1 → 16 ≤ (x2 - x1) → T 0 0 41 [.ref o0, .int (x1 + 8), .int 8] Z (aj_u2 (aj_u2 I s1 21 (Int64.toInt32 s0)) o0 22 (x1 + 8)) G (fun r Z1 I1 G1 => J 64 [some (.ref o0), some (.int x1), some (.int x2), some (.long x3), w4] (r.toList ++ []) Z1 I1 G1 C)) (h2 : x3 = 1 → ¬ 16 ≤ (x2 - x1) → Q (some (.int 0)) Z (aj_u2 (aj_u2 I s1 21 (Int64.toInt32 s0)) o0 22 (x1 + 8)) G) : J 26 [some (.ref o0), some (.int x1), some (.int x2), some (.long x3), w4] [.long s0, .ref s1] Z I G C := by
  refine s_l2i hJ d_42_26 ?_
  refine s_puti hJ lf_1_143 rfl d_42_27 k0 ?_
  refine s_aload_n hJ d_42_30 rfl ?_
  refine s_iload_n hJ d_42_31 rfl ?_
  refine s_bipush (v := 8) hJ d_42_32 (by decide) ?_
  refine s_iadd hJ d_42_34 ?_
  refine s_puti hJ lf_1_146 rfl d_42_35 k1 ?_
  refine s_lload_n hJ d_42_38 rfl ?_
  refine s_lconst_1 hJ d_42_39 ?_
  refine s_lif_ne (tgt := 73) hJ d_42_40 d_42_41 rfl (fun c0 => ?_) (fun c0 => ?_)
  · skip
    exact h0 c0
  · skip
    refine s_iload_n hJ d_42_44 rfl ?_
    refine s_iload_n hJ d_42_45 rfl ?_
    refine s_isub hJ d_42_46 ?_
    refine s_bipush (v := 16) hJ d_42_47 (by decide) ?_
    refine s_icmp_ge (tgt := 54) hJ d_42_49 rfl (fun c1 => ?_) (fun c1 => ?_)
    · skip
      refine s_aload_n hJ d_42_54 rfl ?_
      refine s_iload_n hJ d_42_55 rfl ?_
      refine s_bipush (v := 8) hJ d_42_56 (by decide) ?_
      refine s_iadd hJ d_42_58 ?_
      refine s_bipush (v := 8) hJ d_42_59 (by decide) ?_
      exact s_V2 hJ lm_1_139 d_42_61 (Nat.le_of_ble_eq_true rfl) k1 (h1 c0 c1)
    · skip
      refine s_iconst_0 hJ d_42_52 ?_
      exact s_iret hJ d_42_53 rfl rfl (h2 c0 c1)
set_option maxRecDepth 4000 in
theorem b_42_64 {mc ms : Nat} {X : Option (Nat × (Nat → Int32))} {T : aj_Tt} {Q : aj_Q} {J : aj_J} (hJ : aj_Cl 1 c_42 (some .boolean) false mc ms X T Q J) {o0 : Nat} {x1 : Int32} {x2 : Int32} {w3 : Option Value} {w4 : Option Value} {s0 : Int64} {Z : aj_Z} {I : aj_I} {G : aj_G} {C : Nat × Nat} (k0 : Z.2.1 o0 = some (.inl 1)) (h0 : J 73 [some (.ref o0), some (.int x1), some (.int x2), some (.long s0), none] [] Z (aj_u2 I o0 22 (x1 + 16)) G C) : J 64 [some (.ref o0), some (.int x1), some (.int x2), w3, w4] [.long s0] Z I G C := by
  refine s_lstore_n hJ d_42_64 (Nat.le_of_ble_eq_true rfl) ?_
  refine s_aload_n hJ d_42_65 rfl ?_
  refine s_iload_n hJ d_42_66 rfl ?_
  refine s_bipush (v := 16) hJ d_42_67 (by decide) ?_
  refine s_iadd hJ d_42_69 ?_
  refine s_puti hJ lf_1_146 rfl d_42_70 k0 ?_
  exact h0
set_option maxRecDepth 4000 in
theorem b_42_73 {mc ms : Nat} {X : Option (Nat × (Nat → Int32))} {T : aj_Tt} {Q : aj_Q} {J : aj_J} (hJ : aj_Cl 1 c_42 (some .boolean) false mc ms X T Q J) {o0 : Nat} {x1 : Int32} {x2 : Int32} {x3 : Int64} {w4 : Option Value} {Z : aj_Z} {I : aj_I} {G : aj_G} {C : Nat × Nat} (k0 : Z.2.1 o0 = some (.inl 1)) (h0 : x3 < (Int32.toInt64 ((I o0 22) - x1)) → Q (some (.int 0)) Z I G) (h1 : ¬ x3 < (Int32.toInt64 ((I o0 22) - x1)) → x3 ≤ (Int32.toInt64 (x2 - x1)) → Q (some (.int 1)) Z (aj_u2 I o0 23 (x1 + (Int64.toInt32 x3))) G) (h2 : ¬ x3 < (Int32.toInt64 ((I o0 22) - x1)) → ¬ x3 ≤ (Int32.toInt64 (x2 - x1)) → Q (some (.int 0)) Z I G) : J 73 [some (.ref o0), some (.int x1), some (.int x2), some (.long x3), w4] [] Z I G C := by
  refine s_lload_n hJ d_42_73 rfl ?_
  refine s_aload_n hJ d_42_74 rfl ?_
  refine s_geti hJ lf_1_146 rfl d_42_75 k0 ?_
  refine s_iload_n hJ d_42_78 rfl ?_
  refine s_isub hJ d_42_79 ?_
  refine s_i2l hJ d_42_80 ?_
  refine s_lif_lt (tgt := 94) hJ d_42_81 d_42_82 rfl (fun c0 => ?_) (fun c0 => ?_)
  · skip
    refine s_iconst_0 hJ d_42_94 ?_
    exact s_iret hJ d_42_95 rfl rfl (h0 c0)
  · skip
    refine s_lload_n hJ d_42_85 rfl ?_
    refine s_iload_n hJ d_42_86 rfl ?_
    refine s_iload_n hJ d_42_87 rfl ?_
    refine s_isub hJ d_42_88 ?_
    refine s_i2l hJ d_42_89 ?_
    refine s_lif_le (tgt := 96) hJ d_42_90 d_42_91 rfl (fun c1 => ?_) (fun c1 => ?_)
    · skip
      refine s_aload_n hJ d_42_96 rfl ?_
      refine s_iload_n hJ d_42_97 rfl ?_
      refine s_lload_n hJ d_42_98 rfl ?_
      refine s_l2i hJ d_42_99 ?_
      refine s_iadd hJ d_42_100 ?_
      refine s_puti hJ lf_1_149 rfl d_42_101 k0 ?_
      refine s_iconst_1 hJ d_42_104 ?_
      exact s_iret hJ d_42_105 rfl rfl (h1 c0 c1)
    · skip
      refine s_iconst_0 hJ d_42_94 ?_
      exact s_iret hJ d_42_95 rfl rfl (h2 c0 c1)
-- ReelOfBoxesModel.tableOf(I)I : method 43
theorem d_43_0 : decode c_43 0 = .ok (.iload_n 0, 1) := by decide +kernel
theorem d_43_1 : decode c_43 1 = .ok (.ldc 98, 2) := by decide +kernel
theorem d_43_3 : decode c_43 3 = .ok (.if_icmp .ne (7), 3) := by decide +kernel
theorem d_43_6 : decode c_43 6 = .ok (.iconst (0), 1) := by decide +kernel
theorem d_43_7 : decode c_43 7 = .ok (.goto (40), 3) := by decide +kernel
theorem d_43_10 : decode c_43 10 = .ok (.iload_n 0, 1) := by decide +kernel
theorem d_43_11 : decode c_43 11 = .ok (.ldc 103, 2) := by decide +kernel
theorem d_43_13 : decode c_43 13 = .ok (.if_icmp .ne (7), 3) := by decide +kernel
theorem d_43_16 : decode c_43 16 = .ok (.iconst (1), 1) := by decide +kernel
theorem d_43_17 : decode c_43 17 = .ok (.goto (30), 3) := by decide +kernel
theorem d_43_20 : decode c_43 20 = .ok (.iload_n 0, 1) := by decide +kernel
theorem d_43_21 : decode c_43 21 = .ok (.ldc 104, 2) := by decide +kernel
theorem d_43_23 : decode c_43 23 = .ok (.if_icmp .ne (7), 3) := by decide +kernel
theorem d_43_26 : decode c_43 26 = .ok (.iconst (2), 1) := by decide +kernel
theorem d_43_27 : decode c_43 27 = .ok (.goto (20), 3) := by decide +kernel
theorem d_43_30 : decode c_43 30 = .ok (.iload_n 0, 1) := by decide +kernel
theorem d_43_31 : decode c_43 31 = .ok (.ldc 106, 2) := by decide +kernel
theorem d_43_33 : decode c_43 33 = .ok (.if_icmp .eq (9), 3) := by decide +kernel
theorem d_43_36 : decode c_43 36 = .ok (.iload_n 0, 1) := by decide +kernel
theorem d_43_37 : decode c_43 37 = .ok (.ldc 105, 2) := by decide +kernel
theorem d_43_39 : decode c_43 39 = .ok (.if_icmp .ne (7), 3) := by decide +kernel
theorem d_43_42 : decode c_43 42 = .ok (.iconst (3), 1) := by decide +kernel
theorem d_43_43 : decode c_43 43 = .ok (.goto (4), 3) := by decide +kernel
theorem d_43_46 : decode c_43 46 = .ok (.iconst (-1), 1) := by decide +kernel
theorem d_43_47 : decode c_43 47 = .ok (.ireturn, 1) := by decide +kernel
set_option maxRecDepth 4000 in
theorem b_43_0 {mc ms : Nat} {X : Option (Nat × (Nat → Int32))} {T : aj_Tt} {Q : aj_Q} {J : aj_J} (hJ : aj_Cl 1 c_43 (some .int) false mc ms X T Q J) {x0 : Int32} {Z : aj_Z} {I : aj_I} {G : aj_G} {C : Nat × Nat} (h0 : ¬ x0 = 1937011827 → ¬ x0 = 1937011555 → ¬ x0 = 1937011578 → x0 = 1937007471 → Q (some (.int 3)) Z I G) (h1 : ¬ x0 = 1937011827 → ¬ x0 = 1937011555 → ¬ x0 = 1937011578 → ¬ x0 = 1937007471 → ¬ x0 = 1668232756 → Q (some (.int (-1))) Z I G) (h2 : ¬ x0 = 1937011827 → ¬ x0 = 1937011555 → ¬ x0 = 1937011578 → ¬ x0 = 1937007471 → x0 = 1668232756 → Q (some (.int 3)) Z I G) (h3 : ¬ x0 = 1937011827 → ¬ x0 = 1937011555 → x0 = 1937011578 → Q (some (.int 2)) Z I G) (h4 : ¬ x0 = 1937011827 → x0 = 1937011555 → Q (some (.int 1)) Z I G) (h5 : x0 = 1937011827 → Q (some (.int 0)) Z I G) : J 0 [some (.int x0)] [] Z I G C := by
  refine s_iload_n hJ d_43_0 rfl ?_
  refine s_ldc hJ lc_1_98 d_43_1 ?_
  refine s_icmp_ne (tgt := 10) hJ d_43_3 rfl (fun c0 => ?_) (fun c0 => ?_)
  · skip
    refine s_iload_n hJ d_43_10 rfl ?_
    refine s_ldc hJ lc_1_103 d_43_11 ?_
    refine s_icmp_ne (tgt := 20) hJ d_43_13 rfl (fun c1 => ?_) (fun c1 => ?_)
    · skip
      refine s_iload_n hJ d_43_20 rfl ?_
      refine s_ldc hJ lc_1_104 d_43_21 ?_
      refine s_icmp_ne (tgt := 30) hJ d_43_23 rfl (fun c2 => ?_) (fun c2 => ?_)
      · skip
        refine s_iload_n hJ d_43_30 rfl ?_
        refine s_ldc hJ lc_1_106 d_43_31 ?_
        refine s_icmp_eq (tgt := 42) hJ d_43_33 rfl (fun c3 => ?_) (fun c3 => ?_)
        · skip
          refine s_iconst_3 hJ d_43_42 ?_
          refine s_goto (tgt := 47) hJ d_43_43 rfl ?_
          exact s_iret hJ d_43_47 rfl rfl (h0 c0 c1 c2 c3)
        · skip
          refine s_iload_n hJ d_43_36 rfl ?_
          refine s_ldc hJ lc_1_105 d_43_37 ?_
          refine s_icmp_ne (tgt := 46) hJ d_43_39 rfl (fun c4 => ?_) (fun c4 => ?_)
          · skip
            refine s_iconst_m1 hJ d_43_46 ?_
            exact s_iret hJ d_43_47 rfl rfl (h1 c0 c1 c2 c3 c4)
          · skip
            refine s_iconst_3 hJ d_43_42 ?_
            refine s_goto (tgt := 47) hJ d_43_43 rfl ?_
            exact s_iret hJ d_43_47 rfl rfl (h2 c0 c1 c2 c3 c4)
      · skip
        refine s_iconst_2 hJ d_43_26 ?_
        refine s_goto (tgt := 47) hJ d_43_27 rfl ?_
        exact s_iret hJ d_43_47 rfl rfl (h3 c0 c1 c2)
    · skip
      refine s_iconst_1 hJ d_43_16 ?_
      refine s_goto (tgt := 47) hJ d_43_17 rfl ?_
      exact s_iret hJ d_43_47 rfl rfl (h4 c0 c1)
  · skip
    refine s_iconst_0 hJ d_43_6 ?_
    refine s_goto (tgt := 47) hJ d_43_7 rfl ?_
    exact s_iret hJ d_43_47 rfl rfl (h5 c0)
