/-! decode rows and block rows, by a program -/
-- ReelOfBoxes$Table.entryNumber(II)J : method 123
theorem d_123_0 : decode c_123 0 = .ok (.aload_n 0, 1) := by decide +kernel
theorem d_123_1 : decode c_123 1 = .ok (.getfield 18, 3) := by decide +kernel
theorem d_123_4 : decode c_123 4 = .ok (.aload_n 0, 1) := by decide +kernel
theorem d_123_5 : decode c_123 5 = .ok (.getfield 24, 3) := by decide +kernel
theorem d_123_8 : decode c_123 8 = .ok (.iadd, 1) := by decide +kernel
theorem d_123_9 : decode c_123 9 = .ok (.iload_n 1, 1) := by decide +kernel
theorem d_123_10 : decode c_123 10 = .ok (.aload_n 0, 1) := by decide +kernel
theorem d_123_11 : decode c_123 11 = .ok (.getfield 27, 3) := by decide +kernel
theorem d_123_14 : decode c_123 14 = .ok (.imul, 1) := by decide +kernel
theorem d_123_15 : decode c_123 15 = .ok (.iadd, 1) := by decide +kernel
theorem d_123_16 : decode c_123 16 = .ok (.iconst (4), 1) := by decide +kernel
theorem d_123_17 : decode c_123 17 = .ok (.iload_n 2, 1) := by decide +kernel
theorem d_123_18 : decode c_123 18 = .ok (.imul, 1) := by decide +kernel
theorem d_123_19 : decode c_123 19 = .ok (.iadd, 1) := by decide +kernel
theorem d_123_20 : decode c_123 20 = .ok (.istore_n 3, 1) := by decide +kernel
theorem d_123_21 : decode c_123 21 = .ok (.aload_n 0, 1) := by decide +kernel
theorem d_123_22 : decode c_123 22 = .ok (.getfield 30, 3) := by decide +kernel
theorem d_123_25 : decode c_123 25 = .ok (.iload_n 3, 1) := by decide +kernel
theorem d_123_26 : decode c_123 26 = .ok (.aload_n 0, 1) := by decide +kernel
theorem d_123_27 : decode c_123 27 = .ok (.getfield 15, 3) := by decide +kernel
theorem d_123_30 : decode c_123 30 = .ok (.ldc 58, 2) := by decide +kernel
theorem d_123_32 : decode c_123 32 = .ok (.if_icmp .ne (8), 3) := by decide +kernel
theorem d_123_35 : decode c_123 35 = .ok (.bipush (8), 2) := by decide +kernel
theorem d_123_37 : decode c_123 37 = .ok (.goto (4), 3) := by decide +kernel
theorem d_123_40 : decode c_123 40 = .ok (.iconst (4), 1) := by decide +kernel
theorem d_123_41 : decode c_123 41 = .ok (.invokevirtual 39, 3) := by decide +kernel
theorem d_123_44 : decode c_123 44 = .ok (.lreturn, 1) := by decide +kernel
set_option maxRecDepth 4000 in
theorem b_123_0 {mc ms : Nat} {X : Option (Nat × (Nat → Int32))} {T : aj_Tt} {Q : aj_Q} {J : aj_J} (hJ : aj_Cl 7 c_123 (some .long) false mc ms X T Q J) {o0 : Nat} {x1 : Int32} {x2 : Int32} {q0 : Nat} {Z : aj_Z} {I : aj_I} {G : aj_G} {C : Nat × Nat} (k0 : Z.2.1 o0 = some (.inl 7)) (r0 : Z.2.2 o0 0 = .ref q0) (k1 : Z.2.1 q0 = some (.inl 2)) (h0 : ¬ (I o0 2) = 1668232756 → T 0 0 86 [.ref q0, .int ((((I o0 3) + (I o0 5)) + (x1 * (I o0 6))) + (4 * x2)), .int 4] Z I G (fun r Z1 I1 G1 => J 44 [some (.ref o0), some (.int x1), some (.int x2), some (.int ((((I o0 3) + (I o0 5)) + (x1 * (I o0 6))) + (4 * x2)))] (r.toList ++ []) Z1 I1 G1 C)) (h1 : (I o0 2) = 1668232756 → T 0 0 86 [.ref q0, .int ((((I o0 3) + (I o0 5)) + (x1 * (I o0 6))) + (4 * x2)), .int 8] Z I G (fun r Z1 I1 G1 => J 44 [some (.ref o0), some (.int x1), some (.int x2), some (.int ((((I o0 3) + (I o0 5)) + (x1 * (I o0 6))) + (4 * x2)))] (r.toList ++ []) Z1 I1 G1 C)) : J 0 [some (.ref o0), some (.int x1), some (.int x2), none] [] Z I G C := by
  refine s_aload_n hJ d_123_0 rfl ?_
  refine s_geti hJ lf_7_18 rfl d_123_1 k0 ?_
  refine s_aload_n hJ d_123_4 rfl ?_
  refine s_geti hJ lf_7_24 rfl d_123_5 k0 ?_
  refine s_iadd hJ d_123_8 ?_
  refine s_iload_n hJ d_123_9 rfl ?_
  refine s_aload_n hJ d_123_10 rfl ?_
  refine s_geti hJ lf_7_27 rfl d_123_11 k0 ?_
  refine s_imul hJ d_123_14 ?_
  refine s_iadd hJ d_123_15 ?_
  refine s_iconst_4 hJ d_123_16 ?_
  refine s_iload_n hJ d_123_17 rfl ?_
  refine s_imul hJ d_123_18 ?_
  refine s_iadd hJ d_123_19 ?_
  refine s_istore_n hJ d_123_20 (Nat.le_of_ble_eq_true rfl) ?_
  refine s_aload_n hJ d_123_21 rfl ?_
  refine s_getr hJ lf_7_30 rfl d_123_22 k0 r0 ?_
  refine s_iload_n hJ d_123_25 rfl ?_
  refine s_aload_n hJ d_123_26 rfl ?_
  refine s_geti hJ lf_7_15 rfl d_123_27 k0 ?_
  refine s_ldc hJ lc_7_58 d_123_30 ?_
  refine s_icmp_ne (tgt := 40) hJ d_123_32 rfl (fun c0 => ?_) (fun c0 => ?_)
  · skip
    refine s_iconst_4 hJ d_123_40 ?_
    exact s_V2 hJ lm_7_39 d_123_41 (Nat.le_of_ble_eq_true rfl) k1 (h0 c0)
  · skip
    refine s_bipush (v := 8) hJ d_123_35 (by decide) ?_
    refine s_goto (tgt := 41) hJ d_123_37 rfl ?_
    exact s_V2 hJ lm_7_39 d_123_41 (Nat.le_of_ble_eq_true rfl) k1 (h1 c0)
set_option maxRecDepth 4000 in
theorem b_123_44 {mc ms : Nat} {X : Option (Nat × (Nat → Int32))} {T : aj_Tt} {Q : aj_Q} {J : aj_J} (hJ : aj_Cl 7 c_123 (some .long) false mc ms X T Q J) {w0 : Option Value} {w1 : Option Value} {w2 : Option Value} {w3 : Option Value} {s0 : Int64} {Z : aj_Z} {I : aj_I} {G : aj_G} {C : Nat × Nat} (h0 : Q (some (.long s0)) Z I G) : J 44 [w0, w1, w2, w3] [.long s0] Z I G C := by
  exact s_lret hJ d_123_44 rfl (h0)
-- ReelOfBoxes$Table.ownFault()I : method 124
theorem d_124_0 : decode c_124 0 = .ok (.aload_n 0, 1) := by decide +kernel
theorem d_124_1 : decode c_124 1 = .ok (.invokevirtual 59, 3) := by decide +kernel
theorem d_124_4 : decode c_124 4 = .ok (.ifCond .ne (5), 3) := by decide +kernel
theorem d_124_7 : decode c_124 7 = .ok (.iconst (4), 1) := by decide +kernel
theorem d_124_8 : decode c_124 8 = .ok (.ireturn, 1) := by decide +kernel
theorem d_124_9 : decode c_124 9 = .ok (.aload_n 0, 1) := by decide +kernel
theorem d_124_10 : decode c_124 10 = .ok (.invokevirtual 63, 3) := by decide +kernel
theorem d_124_13 : decode c_124 13 = .ok (.ifCond .ne (5), 3) := by decide +kernel
theorem d_124_16 : decode c_124 16 = .ok (.iconst (5), 1) := by decide +kernel
theorem d_124_17 : decode c_124 17 = .ok (.ireturn, 1) := by decide +kernel
theorem d_124_18 : decode c_124 18 = .ok (.aload_n 0, 1) := by decide +kernel
theorem d_124_19 : decode c_124 19 = .ok (.invokevirtual 66, 3) := by decide +kernel
theorem d_124_22 : decode c_124 22 = .ok (.istore_n 1, 1) := by decide +kernel
theorem d_124_23 : decode c_124 23 = .ok (.iconst (0), 1) := by decide +kernel
theorem d_124_24 : decode c_124 24 = .ok (.istore_n 2, 1) := by decide +kernel
theorem d_124_25 : decode c_124 25 = .ok (.iload_n 2, 1) := by decide +kernel
theorem d_124_26 : decode c_124 26 = .ok (.iload_n 1, 1) := by decide +kernel
theorem d_124_27 : decode c_124 27 = .ok (.if_icmp .ge (19), 3) := by decide +kernel
theorem d_124_30 : decode c_124 30 = .ok (.aload_n 0, 1) := by decide +kernel
theorem d_124_31 : decode c_124 31 = .ok (.iload_n 2, 1) := by decide +kernel
theorem d_124_32 : decode c_124 32 = .ok (.invokevirtual 70, 3) := by decide +kernel
theorem d_124_35 : decode c_124 35 = .ok (.ifCond .ne (5), 3) := by decide +kernel
theorem d_124_38 : decode c_124 38 = .ok (.iconst (5), 1) := by decide +kernel
theorem d_124_39 : decode c_124 39 = .ok (.ireturn, 1) := by decide +kernel
theorem d_124_40 : decode c_124 40 = .ok (.iinc 2 (1), 3) := by decide +kernel
theorem d_124_43 : decode c_124 43 = .ok (.goto (-18), 3) := by decide +kernel
theorem d_124_46 : decode c_124 46 = .ok (.iconst (0), 1) := by decide +kernel
theorem d_124_47 : decode c_124 47 = .ok (.ireturn, 1) := by decide +kernel
set_option maxRecDepth 4000 in
theorem b_124_0 {mc ms : Nat} {X : Option (Nat × (Nat → Int32))} {T : aj_Tt} {Q : aj_Q} {J : aj_J} (hJ : aj_Cl 7 c_124 (some .int) false mc ms X T Q J) {o0 : Nat} {Z : aj_Z} {I : aj_I} {G : aj_G} {C : Nat × Nat} (k0 : Z.2.1 o0 = some (.inl 7)) (h0 : T 0 0 125 [.ref o0] Z I G (fun r Z1 I1 G1 => J 4 [some (.ref o0), none, none] (r.toList ++ []) Z1 I1 G1 C)) : J 0 [some (.ref o0), none, none] [] Z I G C := by
  refine s_aload_n hJ d_124_0 rfl ?_
  exact s_V0 hJ lm_7_59 d_124_1 (Nat.le_of_ble_eq_true rfl) k0 (h0)
set_option maxRecDepth 4000 in
theorem b_124_4 {mc ms : Nat} {X : Option (Nat × (Nat → Int32))} {T : aj_Tt} {Q : aj_Q} {J : aj_J} (hJ : aj_Cl 7 c_124 (some .int) false mc ms X T Q J) {o0 : Nat} {w1 : Option Value} {w2 : Option Value} {s0 : Int32} {Z : aj_Z} {I : aj_I} {G : aj_G} {C : Nat × Nat} (k0 : Z.2.1 o0 = some (.inl 7)) (h0 : ¬ s0 = 0 → T 0 0 126 [.ref o0] Z I G (fun r Z1 I1 G1 => J 13 [some (.ref o0), w1, w2] (r.toList ++ []) Z1 I1 G1 C)) (h1 : s0 = 0 → Q (some (.int 4)) Z I G) : J 4 [some (.ref o0), w1, w2] [.int s0] Z I G C := by
  refine s_if_ne (tgt := 9) hJ d_124_4 rfl (fun c0 => ?_) (fun c0 => ?_)
  · skip
    refine s_aload_n hJ d_124_9 rfl ?_
    exact s_V0 hJ lm_7_63 d_124_10 (Nat.le_of_ble_eq_true rfl) k0 (h0 c0)
  · skip
    refine s_iconst_4 hJ d_124_7 ?_
    exact s_iret hJ d_124_8 rfl rfl (h1 c0)
set_option maxRecDepth 4000 in
theorem b_124_13 {mc ms : Nat} {X : Option (Nat × (Nat → Int32))} {T : aj_Tt} {Q : aj_Q} {J : aj_J} (hJ : aj_Cl 7 c_124 (some .int) false mc ms X T Q J) {o0 : Nat} {w1 : Option Value} {w2 : Option Value} {s0 : Int32} {Z : aj_Z} {I : aj_I} {G : aj_G} {C : Nat × Nat} (k0 : Z.2.1 o0 = some (.inl 7)) (h0 : ¬ s0 = 0 → T 0 0 122 [.ref o0] Z I G (fun r Z1 I1 G1 => J 22 [some (.ref o0), w1, w2] (r.toList ++ []) Z1 I1 G1 C)) (h1 : s0 = 0 → Q (some (.int 5)) Z I G) : J 13 [some (.ref o0), w1, w2] [.int s0] Z I G C := by
  refine s_if_ne (tgt := 18) hJ d_124_13 rfl (fun c0 => ?_) (fun c0 => ?_)
  · skip
    refine s_aload_n hJ d_124_18 rfl ?_
    exact s_V0 hJ lm_7_66 d_124_19 (Nat.le_of_ble_eq_true rfl) k0 (h0 c0)
  · skip
    refine s_iconst_5 hJ d_124_16 ?_
    exact s_iret hJ d_124_17 rfl rfl (h1 c0)
set_option maxRecDepth 4000 in
theorem b_124_22 {mc ms : Nat} {X : Option (Nat × (Nat → Int32))} {T : aj_Tt} {Q : aj_Q} {J : aj_J} (hJ : aj_Cl 7 c_124 (some .int) false mc ms X T Q J) {o0 : Nat} {w1 : Option Value} {w2 : Option Value} {s0 : Int32} {Z : aj_Z} {I : aj_I} {G : aj_G} {C : Nat × Nat} (h0 : J 25 [some (.ref o0), some (.int s0), some (.int 0)] [] Z I G C) : J 22 [some (.ref o0), w1, w2] [.int s0] Z I G C := by
  refine s_istore_n hJ d_124_22 (Nat.le_of_ble_eq_true rfl) ?_
  refine s_iconst_0 hJ d_124_23 ?_
  refine s_istore_n hJ d_124_24 (Nat.le_of_ble_eq_true rfl) ?_
  exact h0
set_option maxRecDepth 4000 in
theorem b_124_25 {mc ms : Nat} {X : Option (Nat × (Nat → Int32))} {T : aj_Tt} {Q : aj_Q} {J : aj_J} (hJ : aj_Cl 7 c_124 (some .int) false mc ms X T Q J) {o0 : Nat} {x1 : Int32} {x2 : Int32} {Z : aj_Z} {I : aj_I} {G : aj_G} {C : Nat × Nat} (h0 : x1 ≤ x2 → Q (some (.int 0)) Z I G) (k0 : Z.2.1 o0 = some (.inl 7)) (h1 : ¬ x1 ≤ x2 → T 0 0 127 [.ref o0, .int x2] Z I G (fun r Z1 I1 G1 => J 35 [some (.ref o0), some (.int x1), some (.int x2)] (r.toList ++ []) Z1 I1 G1 C)) : J 25 [some (.ref o0), some (.int x1), some (.int x2)] [] Z I G C := by
  refine s_iload_n hJ d_124_25 rfl ?_
  refine s_iload_n hJ d_124_26 rfl ?_
  refine s_icmp_ge (tgt := 46) hJ d_124_27 rfl (fun c0 => ?_) (fun c0 => ?_)
  · skip
    refine s_iconst_0 hJ d_124_46 ?_
    exact s_iret hJ d_124_47 rfl rfl (h0 c0)
  · skip
    refine s_aload_n hJ d_124_30 rfl ?_
    refine s_iload_n hJ d_124_31 rfl ?_
    exact s_V1 hJ lm_7_70 d_124_32 (Nat.le_of_ble_eq_true rfl) k0 (h1 c0)
set_option maxRecDepth 4000 in
theorem b_124_35 {mc ms : Nat} {X : Option (Nat × (Nat → Int32))} {T : aj_Tt} {Q : aj_Q} {J : aj_J} (hJ : aj_Cl 7 c_124 (some .int) false mc ms X T Q J) {o0 : Nat} {x1 : Int32} {x2 : Int32} {s0 : Int32} {Z : aj_Z} {I : aj_I} {G : aj_G} {C : Nat × Nat} (h0 : ¬ s0 = 0 → J 25 [some (.ref o0), some (.int x1), some (.int (x2 + 1))] [] Z I G C) (h1 : s0 = 0 → Q (some (.int 5)) Z I G) : J 35 [some (.ref o0), some (.int x1), some (.int x2)] [.int s0] Z I G C := by
  refine s_if_ne (tgt := 40) hJ d_124_35 rfl (fun c0 => ?_) (fun c0 => ?_)
  · skip
    refine s_iinc (v := 1) hJ d_124_40 rfl (by decide) ?_
    refine s_goto (tgt := 25) hJ d_124_43 rfl ?_
    exact h0 c0
  · skip
    refine s_iconst_5 hJ d_124_38 ?_
    exact s_iret hJ d_124_39 rfl rfl (h1 c0)
-- ReelOfBoxes$Table.lengthIsRight()Z : method 125
theorem d_125_0 : decode c_125 0 = .ok (.aload_n 0, 1) := by decide +kernel
theorem d_125_1 : decode c_125 1 = .ok (.getfield 21, 3) := by decide +kernel
theorem d_125_4 : decode c_125 4 = .ok (.aload_n 0, 1) := by decide +kernel
theorem d_125_5 : decode c_125 5 = .ok (.getfield 18, 3) := by decide +kernel
theorem d_125_8 : decode c_125 8 = .ok (.isub, 1) := by decide +kernel
theorem d_125_9 : decode c_125 9 = .ok (.i2l, 1) := by decide +kernel
theorem d_125_10 : decode c_125 10 = .ok (.lstore_n 1, 1) := by decide +kernel
theorem d_125_11 : decode c_125 11 = .ok (.lload_n 1, 1) := by decide +kernel
theorem d_125_12 : decode c_125 12 = .ok (.aload_n 0, 1) := by decide +kernel
theorem d_125_13 : decode c_125 13 = .ok (.getfield 24, 3) := by decide +kernel
theorem d_125_16 : decode c_125 16 = .ok (.i2l, 1) := by decide +kernel
theorem d_125_17 : decode c_125 17 = .ok (.lcmp, 1) := by decide +kernel
theorem d_125_18 : decode c_125 18 = .ok (.ifCond .ge (5), 3) := by decide +kernel
theorem d_125_21 : decode c_125 21 = .ok (.iconst (0), 1) := by decide +kernel
theorem d_125_22 : decode c_125 22 = .ok (.ireturn, 1) := by decide +kernel
theorem d_125_23 : decode c_125 23 = .ok (.aload_n 0, 1) := by decide +kernel
theorem d_125_24 : decode c_125 24 = .ok (.invokevirtual 45, 3) := by decide +kernel
theorem d_125_27 : decode c_125 27 = .ok (.lconst 0, 1) := by decide +kernel
theorem d_125_28 : decode c_125 28 = .ok (.lcmp, 1) := by decide +kernel
theorem d_125_29 : decode c_125 29 = .ok (.ifCond .eq (7), 3) := by decide +kernel
theorem d_125_32 : decode c_125 32 = .ok (.lconst 0, 1) := by decide +kernel
theorem d_125_33 : decode c_125 33 = .ok (.goto (13), 3) := by decide +kernel
theorem d_125_36 : decode c_125 36 = .ok (.aload_n 0, 1) := by decide +kernel
theorem d_125_37 : decode c_125 37 = .ok (.invokevirtual 49, 3) := by decide +kernel
theorem d_125_40 : decode c_125 40 = .ok (.aload_n 0, 1) := by decide +kernel
theorem d_125_41 : decode c_125 41 = .ok (.getfield 27, 3) := by decide +kernel
theorem d_125_44 : decode c_125 44 = .ok (.i2l, 1) := by decide +kernel
theorem d_125_45 : decode c_125 45 = .ok (.lmul, 1) := by decide +kernel
theorem d_125_46 : decode c_125 46 = .ok (.lstore_n 3, 1) := by decide +kernel
theorem d_125_47 : decode c_125 47 = .ok (.lload_n 1, 1) := by decide +kernel
theorem d_125_48 : decode c_125 48 = .ok (.aload_n 0, 1) := by decide +kernel
theorem d_125_49 : decode c_125 49 = .ok (.getfield 24, 3) := by decide +kernel
theorem d_125_52 : decode c_125 52 = .ok (.i2l, 1) := by decide +kernel
theorem d_125_53 : decode c_125 53 = .ok (.lload_n 3, 1) := by decide +kernel
theorem d_125_54 : decode c_125 54 = .ok (.ladd, 1) := by decide +kernel
theorem d_125_55 : decode c_125 55 = .ok (.lcmp, 1) := by decide +kernel
theorem d_125_56 : decode c_125 56 = .ok (.ifCond .ne (7), 3) := by decide +kernel
theorem d_125_59 : decode c_125 59 = .ok (.iconst (1), 1) := by decide +kernel
theorem d_125_60 : decode c_125 60 = .ok (.goto (4), 3) := by decide +kernel
theorem d_125_63 : decode c_125 63 = .ok (.iconst (0), 1) := by decide +kernel
theorem d_125_64 : decode c_125 64 = .ok (.ireturn, 1) := by decide +kernel
set_option maxRecDepth 4000 in
theorem b_125_0 {mc ms : Nat} {X : Option (Nat × (Nat → Int32))} {T : aj_Tt} {Q : aj_Q} {J : aj_J} (hJ : aj_Cl 7 c_125 (some .boolean) false mc ms X T Q J) {o0 : Nat} {Z : aj_Z} {I : aj_I} {G : aj_G} {C : Nat × Nat} (k0 : Z.2.1 o0 = some (.inl 7)) (h0 : (Int32.toInt64 (I o0 5)) ≤ (Int32.toInt64 ((I o0 4) - (I o0 3))) → T 0 0 121 [.ref o0] Z I G (fun r Z1 I1 G1 => J 27 [some (.ref o0), some (.long (Int32.toInt64 ((I o0 4) - (I o0 3)))), none, none, none] (r.toList ++ []) Z1 I1 G1 C)) (h1 : ¬ (Int32.toInt64 (I o0 5)) ≤ (Int32.toInt64 ((I o0 4) - (I o0 3))) → Q (some (.int 0)) Z I G) : J 0 [some (.ref o0), none, none, none, none] [] Z I G C := by
  refine s_aload_n hJ d_125_0 rfl ?_
  refine s_geti hJ lf_7_21 rfl d_125_1 k0 ?_
  refine s_aload_n hJ d_125_4 rfl ?_
  refine s_geti hJ lf_7_18 rfl d_125_5 k0 ?_
  refine s_isub hJ d_125_8 ?_
  refine s_i2l hJ d_125_9 ?_
  refine s_lstore_n hJ d_125_10 (Nat.le_of_ble_eq_true rfl) ?_
  refine s_lload_n hJ d_125_11 rfl ?_
  refine s_aload_n hJ d_125_12 rfl ?_
  refine s_geti hJ lf_7_24 rfl d_125_13 k0 ?_
  refine s_i2l hJ d_125_16 ?_
  refine s_lif_ge (tgt := 23) hJ d_125_17 d_125_18 rfl (fun c0 => ?_) (fun c0 => ?_)
  · skip
    refine s_aload_n hJ d_125_23 rfl ?_
    exact s_V0 hJ lm_7_45 d_125_24 (Nat.le_of_ble_eq_true rfl) k0 (h0 c0)
  · skip
    refine s_iconst_0 hJ d_125_21 ?_
    exact s_iret hJ d_125_22 rfl rfl (h1 c0)
set_option maxRecDepth 4000 in
theorem b_125_27 {mc ms : Nat} {X : Option (Nat × (Nat → Int32))} {T : aj_Tt} {Q : aj_Q} {J : aj_J} (hJ : aj_Cl 7 c_125 (some .boolean) false mc ms X T Q J) {o0 : Nat} {x1 : Int64} {w2 : Option Value} {w3 : Option Value} {w4 : Option Value} {s0 : Int64} {Z : aj_Z} {I : aj_I} {G : aj_G} {C : Nat × Nat} (k0 : Z.2.1 o0 = some (.inl 7)) (h0 : s0 = 0 → T 0 0 120 [.ref o0] Z I G (fun r Z1 I1 G1 => J 40 [some (.ref o0), some (.long x1), w2, w3, w4] (r.toList ++ []) Z1 I1 G1 C)) (h1 : ¬ s0 = 0 → J 46 [some (.ref o0), some (.long x1), w2, w3, w4] [.long 0] Z I G C) : J 27 [some (.ref o0), some (.long x1), w2, w3, w4] [.long s0] Z I G C := by
  refine s_lconst_0 hJ d_125_27 ?_
  refine s_lif_eq (tgt := 36) hJ d_125_28 d_125_29 rfl (fun c0 => ?_) (fun c0 => ?_)
  · skip
    refine s_aload_n hJ d_125_36 rfl ?_
    exact s_V0 hJ lm_7_49 d_125_37 (Nat.le_of_ble_eq_true rfl) k0 (h0 c0)
  · skip
    refine s_lconst_0 hJ d_125_32 ?_
    refine s_goto (tgt := 46) hJ d_125_33 rfl ?_
    exact h1 c0
set_option maxRecDepth 4000 in
theorem b_125_40 {mc ms : Nat} {X : Option (Nat × (Nat → Int32))} {T : aj_Tt} {Q : aj_Q} {J : aj_J} (hJ : aj_Cl 7 c_125 (some .boolean) false mc ms X T Q J) {o0 : Nat} {x1 : Int64} {w2 : Option Value} {w3 : Option Value} {w4 : Option Value} {s0 : Int64} {Z : aj_Z} {I : aj_I} {G : aj_G} {C : Nat × Nat} (k0 : Z.2.1 o0 = some (.inl 7)) (h0 : J 46 [some (.ref o0), some (.long x1), w2, w3, w4] [.long (s0 * (Int32.toInt64 (I o0 6)))] Z I G C) : J 40 [some (.ref o0), some (.long x1), w2, w3, w4] [.long s0] Z I G C := by
  refine s_aload_n hJ d_125_40 rfl ?_
  refine s_geti hJ lf_7_27 rfl d_125_41 k0 ?_
  refine s_i2l hJ d_125_44 ?_
  refine s_lmul hJ d_125_45 ?_
  exact h0
set_option maxRecDepth 4000 in
theorem b_125_46 {mc ms : Nat} {X : Option (Nat × (Nat → Int32))} {T : aj_Tt} {Q : aj_Q} {J : aj_J} (hJ : aj_Cl 7 c_125 (some .boolean) false mc ms X T Q J) {o0 : Nat} {x1 : Int64} {w2 : Option Value} {w3 : Option Value} {w4 : Option Value} {s0 : Int64} {Z : aj_Z} {I : aj_I} {G : aj_G} {C : Nat × Nat} (k0 : Z.2.1 o0 = some (.inl 7)) (h0 : ¬ x1 = ((Int32.toInt64 (I o0 5)) + s0) → Q (some (.int 0)) Z I G) (h1 : x1 = ((Int32.toInt64 (I o0 5)) + s0) → Q (some (.int 1)) Z I G) : J 46 [some (.ref o0), some (.long x1), w2, w3, w4] [.long s0] Z I G C := by
  refine s_lstore_n hJ d_125_46 (Nat.le_of_ble_eq_true rfl) ?_
  refine s_lload_n hJ d_125_47 rfl ?_
  refine s_aload_n hJ d_125_48 rfl ?_
  refine s_geti hJ lf_7_24 rfl d_125_49 k0 ?_
  refine s_i2l hJ d_125_52 ?_
  refine s_lload_n hJ d_125_53 rfl ?_
  refine s_ladd hJ d_125_54 ?_
  refine s_lif_ne (tgt := 63) hJ d_125_55 d_125_56 rfl (fun c0 => ?_) (fun c0 => ?_)
  · skip
    refine s_iconst_0 hJ d_125_63 ?_
    exact s_iret hJ d_125_64 rfl rfl (h0 c0)
  · skip
    refine s_iconst_1 hJ d_125_59 ?_
    refine s_goto (tgt := 64) hJ d_125_60 rfl ?_
    exact s_iret hJ d_125_64 rfl rfl (h1 c0)
-- ReelOfBoxes$Table.headIsRight()Z : method 126
theorem d_126_0 : decode c_126 0 = .ok (.aload_n 0, 1) := by decide +kernel
theorem d_126_1 : decode c_126 1 = .ok (.getfield 30, 3) := by decide +kernel
theorem d_126_4 : decode c_126 4 = .ok (.aload_n 0, 1) := by decide +kernel
theorem d_126_5 : decode c_126 5 = .ok (.getfield 18, 3) := by decide +kernel
theorem d_126_8 : decode c_126 8 = .ok (.iconst (4), 1) := by decide +kernel
theorem d_126_9 : decode c_126 9 = .ok (.invokevirtual 39, 3) := by decide +kernel
theorem d_126_12 : decode c_126 12 = .ok (.lconst 0, 1) := by decide +kernel
theorem d_126_13 : decode c_126 13 = .ok (.lcmp, 1) := by decide +kernel
theorem d_126_14 : decode c_126 14 = .ok (.ifCond .ne (27), 3) := by decide +kernel
theorem d_126_17 : decode c_126 17 = .ok (.aload_n 0, 1) := by decide +kernel
theorem d_126_18 : decode c_126 18 = .ok (.invokevirtual 49, 3) := by decide +kernel
theorem d_126_21 : decode c_126 21 = .ok (.invokestatic 74, 3) := by decide +kernel
theorem d_126_24 : decode c_126 24 = .ok (.ifCond .ne (17), 3) := by decide +kernel
theorem d_126_27 : decode c_126 27 = .ok (.aload_n 0, 1) := by decide +kernel
theorem d_126_28 : decode c_126 28 = .ok (.invokevirtual 45, 3) := by decide +kernel
theorem d_126_31 : decode c_126 31 = .ok (.invokestatic 74, 3) := by decide +kernel
theorem d_126_34 : decode c_126 34 = .ok (.ifCond .ne (7), 3) := by decide +kernel
theorem d_126_37 : decode c_126 37 = .ok (.iconst (1), 1) := by decide +kernel
theorem d_126_38 : decode c_126 38 = .ok (.goto (4), 3) := by decide +kernel
theorem d_126_41 : decode c_126 41 = .ok (.iconst (0), 1) := by decide +kernel
theorem d_126_42 : decode c_126 42 = .ok (.ireturn, 1) := by decide +kernel
set_option maxRecDepth 4000 in
theorem b_126_0 {mc ms : Nat} {X : Option (Nat × (Nat → Int32))} {T : aj_Tt} {Q : aj_Q} {J : aj_J} (hJ : aj_Cl 7 c_126 (some .boolean) false mc ms X T Q J) {o0 : Nat} {q0 : Nat} {Z : aj_Z} {I : aj_I} {G : aj_G} {C : Nat × Nat} (k0 : Z.2.1 o0 = some (.inl 7)) (r0 : Z.2.2 o0 0 = .ref q0) (k1 : Z.2.1 q0 = some (.inl 2)) (h0 : T 0 0 86 [.ref q0, .int (I o0 3), .int 4] Z I G (fun r Z1 I1 G1 => J 12 [some (.ref o0)] (r.toList ++ []) Z1 I1 G1 C)) : J 0 [some (.ref o0)] [] Z I G C := by
  refine s_aload_n hJ d_126_0 rfl ?_
  refine s_getr hJ lf_7_30 rfl d_126_1 k0 r0 ?_
  refine s_aload_n hJ d_126_4 rfl ?_
  refine s_geti hJ lf_7_18 rfl d_126_5 k0 ?_
  refine s_iconst_4 hJ d_126_8 ?_
  exact s_V2 hJ lm_7_39 d_126_9 (Nat.le_of_ble_eq_true rfl) k1 (h0)
set_option maxRecDepth 4000 in
theorem b_126_12 {mc ms : Nat} {X : Option (Nat × (Nat → Int32))} {T : aj_Tt} {Q : aj_Q} {J : aj_J} (hJ : aj_Cl 7 c_126 (some .boolean) false mc ms X T Q J) {o0 : Nat} {s0 : Int64} {Z : aj_Z} {I : aj_I} {G : aj_G} {C : Nat × Nat} (h0 : ¬ s0 = 0 → Q (some (.int 0)) Z I G) (k0 : Z.2.1 o0 = some (.inl 7)) (h1 : s0 = 0 → T 0 0 120 [.ref o0] Z I G (fun r Z1 I1 G1 => J 21 [some (.ref o0)] (r.toList ++ []) Z1 I1 G1 C)) : J 12 [some (.ref o0)] [.long s0] Z I G C := by
  refine s_lconst_0 hJ d_126_12 ?_
  refine s_lif_ne (tgt := 41) hJ d_126_13 d_126_14 rfl (fun c0 => ?_) (fun c0 => ?_)
  · skip
    refine s_iconst_0 hJ d_126_41 ?_
    exact s_iret hJ d_126_42 rfl rfl (h0 c0)
  · skip
    refine s_aload_n hJ d_126_17 rfl ?_
    exact s_V0 hJ lm_7_49 d_126_18 (Nat.le_of_ble_eq_true rfl) k0 (h1 c0)
set_option maxRecDepth 4000 in
theorem b_126_21 {mc ms : Nat} {X : Option (Nat × (Nat → Int32))} {T : aj_Tt} {Q : aj_Q} {J : aj_J} (hJ : aj_Cl 7 c_126 (some .boolean) false mc ms X T Q J) {o0 : Nat} {s0 : Int64} {Z : aj_Z} {I : aj_I} {G : aj_G} {C : Nat × Nat} (h0 : T 0 0 17 [.long s0] Z I G (fun r Z1 I1 G1 => J 24 [some (.ref o0)] (r.toList ++ []) Z1 I1 G1 C)) : J 21 [some (.ref o0)] [.long s0] Z I G C := by
  exact s_S1 hJ lm_7_74 d_126_21 (Nat.le_of_ble_eq_true rfl) (h0)
set_option maxRecDepth 4000 in
theorem b_126_24 {mc ms : Nat} {X : Option (Nat × (Nat → Int32))} {T : aj_Tt} {Q : aj_Q} {J : aj_J} (hJ : aj_Cl 7 c_126 (some .boolean) false mc ms X T Q J) {o0 : Nat} {s0 : Int32} {Z : aj_Z} {I : aj_I} {G : aj_G} {C : Nat × Nat} (h0 : ¬ s0 = 0 → Q (some (.int 0)) Z I G) (k0 : Z.2.1 o0 = some (.inl 7)) (h1 : s0 = 0 → T 0 0 121 [.ref o0] Z I G (fun r Z1 I1 G1 => J 31 [some (.ref o0)] (r.toList ++ []) Z1 I1 G1 C)) : J 24 [some (.ref o0)] [.int s0] Z I G C := by
  refine s_if_ne (tgt := 41) hJ d_126_24 rfl (fun c0 => ?_) (fun c0 => ?_)
  · skip
    refine s_iconst_0 hJ d_126_41 ?_
    exact s_iret hJ d_126_42 rfl rfl (h0 c0)
  · skip
    refine s_aload_n hJ d_126_27 rfl ?_
    exact s_V0 hJ lm_7_45 d_126_28 (Nat.le_of_ble_eq_true rfl) k0 (h1 c0)
set_option maxRecDepth 4000 in
theorem b_126_31 {mc ms : Nat} {X : Option (Nat × (Nat → Int32))} {T : aj_Tt} {Q : aj_Q} {J : aj_J} (hJ : aj_Cl 7 c_126 (some .boolean) false mc ms X T Q J) {w0 : Option Value} {s0 : Int64} {Z : aj_Z} {I : aj_I} {G : aj_G} {C : Nat × Nat} (h0 : T 0 0 17 [.long s0] Z I G (fun r Z1 I1 G1 => J 34 [w0] (r.toList ++ []) Z1 I1 G1 C)) : J 31 [w0] [.long s0] Z I G C := by
  exact s_S1 hJ lm_7_74 d_126_31 (Nat.le_of_ble_eq_true rfl) (h0)
set_option maxRecDepth 4000 in
theorem b_126_34 {mc ms : Nat} {X : Option (Nat × (Nat → Int32))} {T : aj_Tt} {Q : aj_Q} {J : aj_J} (hJ : aj_Cl 7 c_126 (some .boolean) false mc ms X T Q J) {w0 : Option Value} {s0 : Int32} {Z : aj_Z} {I : aj_I} {G : aj_G} {C : Nat × Nat} (h0 : ¬ s0 = 0 → Q (some (.int 0)) Z I G) (h1 : s0 = 0 → Q (some (.int 1)) Z I G) : J 34 [w0] [.int s0] Z I G C := by
  refine s_if_ne (tgt := 41) hJ d_126_34 rfl (fun c0 => ?_) (fun c0 => ?_)
  · skip
    refine s_iconst_0 hJ d_126_41 ?_
    exact s_iret hJ d_126_42 rfl rfl (h0 c0)
  · skip
    refine s_iconst_1 hJ d_126_37 ?_
    refine s_goto (tgt := 42) hJ d_126_38 rfl ?_
    exact s_iret hJ d_126_42 rfl rfl (h1 c0)
-- ReelOfBoxes$Table.entryIsRight(I)Z : method 127
theorem d_127_0 : decode c_127 0 = .ok (.aload_n 0, 1) := by decide +kernel
theorem d_127_1 : decode c_127 1 = .ok (.iload_n 1, 1) := by decide +kernel
theorem d_127_2 : decode c_127 2 = .ok (.iconst (0), 1) := by decide +kernel
theorem d_127_3 : decode c_127 3 = .ok (.invokevirtual 78, 3) := by decide +kernel
theorem d_127_6 : decode c_127 6 = .ok (.lstore_n 2, 1) := by decide +kernel
theorem d_127_7 : decode c_127 7 = .ok (.aload_n 0, 1) := by decide +kernel
theorem d_127_8 : decode c_127 8 = .ok (.getfield 15, 3) := by decide +kernel
theorem d_127_11 : decode c_127 11 = .ok (.lookupswitch (112) #[((1937011555), (50)), ((1937011827), (25))], 25) := by decide +kernel
theorem d_127_36 : decode c_127 36 = .ok (.lload_n 2, 1) := by decide +kernel
theorem d_127_37 : decode c_127 37 = .ok (.invokestatic 81, 3) := by decide +kernel
theorem d_127_40 : decode c_127 40 = .ok (.ifCond .eq (19), 3) := by decide +kernel
theorem d_127_43 : decode c_127 43 = .ok (.aload_n 0, 1) := by decide +kernel
theorem d_127_44 : decode c_127 44 = .ok (.iload_n 1, 1) := by decide +kernel
theorem d_127_45 : decode c_127 45 = .ok (.iconst (1), 1) := by decide +kernel
theorem d_127_46 : decode c_127 46 = .ok (.invokevirtual 78, 3) := by decide +kernel
theorem d_127_49 : decode c_127 49 = .ok (.invokestatic 74, 3) := by decide +kernel
theorem d_127_52 : decode c_127 52 = .ok (.ifCond .ne (7), 3) := by decide +kernel
theorem d_127_55 : decode c_127 55 = .ok (.iconst (1), 1) := by decide +kernel
theorem d_127_56 : decode c_127 56 = .ok (.goto (4), 3) := by decide +kernel
theorem d_127_59 : decode c_127 59 = .ok (.iconst (0), 1) := by decide +kernel
theorem d_127_60 : decode c_127 60 = .ok (.ireturn, 1) := by decide +kernel
theorem d_127_61 : decode c_127 61 = .ok (.lload_n 2, 1) := by decide +kernel
theorem d_127_62 : decode c_127 62 = .ok (.invokestatic 74, 3) := by decide +kernel
theorem d_127_65 : decode c_127 65 = .ok (.ifCond .ne (56), 3) := by decide +kernel
theorem d_127_68 : decode c_127 68 = .ok (.iload_n 1, 1) := by decide +kernel
theorem d_127_69 : decode c_127 69 = .ok (.ifCond .ne (12), 3) := by decide +kernel
theorem d_127_72 : decode c_127 72 = .ok (.lload_n 2, 1) := by decide +kernel
theorem d_127_73 : decode c_127 73 = .ok (.lconst 1, 1) := by decide +kernel
theorem d_127_74 : decode c_127 74 = .ok (.lcmp, 1) := by decide +kernel
theorem d_127_75 : decode c_127 75 = .ok (.ifCond .ne (46), 3) := by decide +kernel
theorem d_127_78 : decode c_127 78 = .ok (.goto (16), 3) := by decide +kernel
theorem d_127_81 : decode c_127 81 = .ok (.lload_n 2, 1) := by decide +kernel
theorem d_127_82 : decode c_127 82 = .ok (.aload_n 0, 1) := by decide +kernel
theorem d_127_83 : decode c_127 83 = .ok (.iload_n 1, 1) := by decide +kernel
theorem d_127_84 : decode c_127 84 = .ok (.iconst (1), 1) := by decide +kernel
theorem d_127_85 : decode c_127 85 = .ok (.isub, 1) := by decide +kernel
theorem d_127_86 : decode c_127 86 = .ok (.iconst (0), 1) := by decide +kernel
theorem d_127_87 : decode c_127 87 = .ok (.invokevirtual 78, 3) := by decide +kernel
theorem d_127_90 : decode c_127 90 = .ok (.lcmp, 1) := by decide +kernel
theorem d_127_91 : decode c_127 91 = .ok (.ifCond .le (30), 3) := by decide +kernel
theorem d_127_94 : decode c_127 94 = .ok (.aload_n 0, 1) := by decide +kernel
theorem d_127_95 : decode c_127 95 = .ok (.iload_n 1, 1) := by decide +kernel
theorem d_127_96 : decode c_127 96 = .ok (.iconst (1), 1) := by decide +kernel
theorem d_127_97 : decode c_127 97 = .ok (.invokevirtual 78, 3) := by decide +kernel
theorem d_127_100 : decode c_127 100 = .ok (.invokestatic 81, 3) := by decide +kernel
theorem d_127_103 : decode c_127 103 = .ok (.ifCond .eq (18), 3) := by decide +kernel
theorem d_127_106 : decode c_127 106 = .ok (.aload_n 0, 1) := by decide +kernel
theorem d_127_107 : decode c_127 107 = .ok (.iload_n 1, 1) := by decide +kernel
theorem d_127_108 : decode c_127 108 = .ok (.iconst (2), 1) := by decide +kernel
theorem d_127_109 : decode c_127 109 = .ok (.invokevirtual 78, 3) := by decide +kernel
theorem d_127_112 : decode c_127 112 = .ok (.lconst 1, 1) := by decide +kernel
theorem d_127_113 : decode c_127 113 = .ok (.lcmp, 1) := by decide +kernel
theorem d_127_114 : decode c_127 114 = .ok (.ifCond .ne (7), 3) := by decide +kernel
theorem d_127_117 : decode c_127 117 = .ok (.iconst (1), 1) := by decide +kernel
theorem d_127_118 : decode c_127 118 = .ok (.goto (4), 3) := by decide +kernel
theorem d_127_121 : decode c_127 121 = .ok (.iconst (0), 1) := by decide +kernel
theorem d_127_122 : decode c_127 122 = .ok (.ireturn, 1) := by decide +kernel
theorem d_127_123 : decode c_127 123 = .ok (.lload_n 2, 1) := by decide +kernel
theorem d_127_124 : decode c_127 124 = .ok (.invokestatic 74, 3) := by decide +kernel
theorem d_127_127 : decode c_127 127 = .ok (.ifCond .ne (7), 3) := by decide +kernel
theorem d_127_130 : decode c_127 130 = .ok (.iconst (1), 1) := by decide +kernel
theorem d_127_131 : decode c_127 131 = .ok (.goto (4), 3) := by decide +kernel
theorem d_127_134 : decode c_127 134 = .ok (.iconst (0), 1) := by decide +kernel
theorem d_127_135 : decode c_127 135 = .ok (.ireturn, 1) := by decide +kernel
set_option maxRecDepth 4000 in
theorem b_127_0 {mc ms : Nat} {X : Option (Nat × (Nat → Int32))} {T : aj_Tt} {Q : aj_Q} {J : aj_J} (hJ : aj_Cl 7 c_127 (some .boolean) false mc ms X T Q J) {o0 : Nat} {x1 : Int32} {Z : aj_Z} {I : aj_I} {G : aj_G} {C : Nat × Nat} (k0 : Z.2.1 o0 = some (.inl 7)) (h0 : T 0 0 123 [.ref o0, .int x1, .int 0] Z I G (fun r Z1 I1 G1 => J 6 [some (.ref o0), some (.int x1), none, none] (r.toList ++ []) Z1 I1 G1 C)) : J 0 [some (.ref o0), some (.int x1), none, none] [] Z I G C := by
  refine s_aload_n hJ d_127_0 rfl ?_
  refine s_iload_n hJ d_127_1 rfl ?_
  refine s_iconst_0 hJ d_127_2 ?_
  exact s_V2 hJ lm_7_78 d_127_3 (Nat.le_of_ble_eq_true rfl) k0 (h0)
set_option maxRecDepth 4000 in
theorem b_127_6 {mc ms : Nat} {X : Option (Nat × (Nat → Int32))} {T : aj_Tt} {Q : aj_Q} {J : aj_J} (hJ : aj_Cl 7 c_127 (some .boolean) false mc ms X T Q J) {o0 : Nat} {x1 : Int32} {w2 : Option Value} {w3 : Option Value} {s0 : Int64} {Z : aj_Z} {I : aj_I} {G : aj_G} {C : Nat × Nat} (k0 : Z.2.1 o0 = some (.inl 7)) (h0 : (I o0 2) = 1937011555 → T 0 0 17 [.long s0] Z I G (fun r Z1 I1 G1 => J 65 [some (.ref o0), some (.int x1), some (.long s0), none] (r.toList ++ []) Z1 I1 G1 C)) (h1 : ¬ (I o0 2) = 1937011555 → (I o0 2) = 1937011827 → T 0 0 128 [.long s0] Z I G (fun r Z1 I1 G1 => J 40 [some (.ref o0), some (.int x1), some (.long s0), none] (r.toList ++ []) Z1 I1 G1 C)) (h2 : ¬ (I o0 2) = 1937011555 → ¬ (I o0 2) = 1937011827 → T 0 0 17 [.long s0] Z I G (fun r Z1 I1 G1 => J 127 [some (.ref o0), some (.int x1), some (.long s0), none] (r.toList ++ []) Z1 I1 G1 C)) : J 6 [some (.ref o0), some (.int x1), w2, w3] [.long s0] Z I G C := by
  refine s_lstore_n hJ d_127_6 (Nat.le_of_ble_eq_true rfl) ?_
  refine s_aload_n hJ d_127_7 rfl ?_
  refine s_geti hJ lf_7_15 rfl d_127_8 k0 ?_
  by_cases c0 : (I o0 2) = 1937011555
  · skip
    refine s_lookup (off := 50) (tgt := 61) hJ d_127_11 (by decide) (by rw [c0]; decide) rfl ?_
    refine s_lload_n hJ d_127_61 rfl ?_
    exact s_S1 hJ lm_7_74 d_127_62 (Nat.le_of_ble_eq_true rfl) (h0 c0)
  by_cases c1 : (I o0 2) = 1937011827
  · skip
    refine s_lookup (off := 25) (tgt := 36) hJ d_127_11 (by decide) (by rw [c1]; decide) rfl ?_
    refine s_lload_n hJ d_127_36 rfl ?_
    exact s_S1 hJ lm_7_81 d_127_37 (Nat.le_of_ble_eq_true rfl) (h1 c0 c1)
  refine s_lookup (off := 112) (tgt := 123) hJ d_127_11 (by decide) ((lv_osw (k := 1937011555) c0 (by decide)).trans ((lv_osw (k := 1937011827) c1 (by decide)).trans (rfl))) rfl ?_
  refine s_lload_n hJ d_127_123 rfl ?_
  exact s_S1 hJ lm_7_74 d_127_124 (Nat.le_of_ble_eq_true rfl) (h2 c0 c1)
set_option maxRecDepth 4000 in
theorem b_127_40 {mc ms : Nat} {X : Option (Nat × (Nat → Int32))} {T : aj_Tt} {Q : aj_Q} {J : aj_J} (hJ : aj_Cl 7 c_127 (some .boolean) false mc ms X T Q J) {o0 : Nat} {x1 : Int32} {w2 : Option Value} {w3 : Option Value} {s0 : Int32} {Z : aj_Z} {I : aj_I} {G : aj_G} {C : Nat × Nat} (h0 : s0 = 0 → Q (some (.int 0)) Z I G) (k0 : Z.2.1 o0 = some (.inl 7)) (h1 : ¬ s0 = 0 → T 0 0 123 [.ref o0, .int x1, .int 1] Z I G (fun r Z1 I1 G1 => J 49 [some (.ref o0), some (.int x1), w2, w3] (r.toList ++ []) Z1 I1 G1 C)) : J 40 [some (.ref o0), some (.int x1), w2, w3] [.int s0] Z I G C := by
  refine s_if_eq (tgt := 59) hJ d_127_40 rfl (fun c0 => ?_) (fun c0 => ?_)
  · skip
    refine s_iconst_0 hJ d_127_59 ?_
    exact s_iret hJ d_127_60 rfl rfl (h0 c0)
  · skip
    refine s_aload_n hJ d_127_43 rfl ?_
    refine s_iload_n hJ d_127_44 rfl ?_
    refine s_iconst_1 hJ d_127_45 ?_
    exact s_V2 hJ lm_7_78 d_127_46 (Nat.le_of_ble_eq_true rfl) k0 (h1 c0)
set_option maxRecDepth 4000 in
theorem b_127_49 {mc ms : Nat} {X : Option (Nat × (Nat → Int32))} {T : aj_Tt} {Q : aj_Q} {J : aj_J} (hJ : aj_Cl 7 c_127 (some .boolean) false mc ms X T Q J) {w0 : Option Value} {w1 : Option Value} {w2 : Option Value} {w3 : Option Value} {s0 : Int64} {Z : aj_Z} {I : aj_I} {G : aj_G} {C : Nat × Nat} (h0 : T 0 0 17 [.long s0] Z I G (fun r Z1 I1 G1 => J 52 [w0, w1, w2, w3] (r.toList ++ []) Z1 I1 G1 C)) : J 49 [w0, w1, w2, w3] [.long s0] Z I G C := by
  exact s_S1 hJ lm_7_74 d_127_49 (Nat.le_of_ble_eq_true rfl) (h0)
set_option maxRecDepth 4000 in
theorem b_127_52 {mc ms : Nat} {X : Option (Nat × (Nat → Int32))} {T : aj_Tt} {Q : aj_Q} {J : aj_J} (hJ : aj_Cl 7 c_127 (some .boolean) false mc ms X T Q J) {w0 : Option Value} {w1 : Option Value} {w2 : Option Value} {w3 : Option Value} {s0 : Int32} {Z : aj_Z} {I : aj_I} {G : aj_G} {C : Nat × Nat} (h0 : ¬ s0 = 0 → Q (some (.int 0)) Z I G) (h1 : s0 = 0 → Q (some (.int 1)) Z I G) : J 52 [w0, w1, w2, w3] [.int s0] Z I G C := by
  refine s_if_ne (tgt := 59) hJ d_127_52 rfl (fun c0 => ?_) (fun c0 => ?_)
  · skip
    refine s_iconst_0 hJ d_127_59 ?_
    exact s_iret hJ d_127_60 rfl rfl (h0 c0)
  · skip
    refine s_iconst_1 hJ d_127_55 ?_
    refine s_goto (tgt := 60) hJ d_127_56 rfl ?_
    exact s_iret hJ d_127_60 rfl rfl (h1 c0)
set_option maxRecDepth 4000 in
theorem b_127_65 {mc ms : Nat} {X : Option (Nat × (Nat → Int32))} {T : aj_Tt} {Q : aj_Q} {J : aj_J} (hJ : aj_Cl 7 c_127 (some .boolean) false mc ms X T Q J) {o0 : Nat} {x1 : Int32} {x2 : Int64} {w3 : Option Value} {s0 : Int32} {Z : aj_Z} {I : aj_I} {G : aj_G} {C : Nat × Nat} (h0 : ¬ s0 = 0 → Q (some (.int 0)) Z I G) (k0 : Z.2.1 o0 = some (.inl 7)) (h1 : s0 = 0 → ¬ x1 = 0 → T 0 0 123 [.ref o0, .int (x1 - 1), .int 0] Z I G (fun r Z1 I1 G1 => J 90 [some (.ref o0), some (.int x1), some (.long x2), w3] (r.toList ++ [.long x2]) Z1 I1 G1 C)) (h2 : s0 = 0 → x1 = 0 → ¬ x2 = 1 → Q (some (.int 0)) Z I G) (h3 : s0 = 0 → x1 = 0 → x2 = 1 → T 0 0 123 [.ref o0, .int x1, .int 1] Z I G (fun r Z1 I1 G1 => J 100 [some (.ref o0), some (.int x1), some (.long x2), w3] (r.toList ++ []) Z1 I1 G1 C)) : J 65 [some (.ref o0), some (.int x1), some (.long x2), w3] [.int s0] Z I G C := by
  refine s_if_ne (tgt := 121) hJ d_127_65 rfl (fun c0 => ?_) (fun c0 => ?_)
  · skip
    refine s_iconst_0 hJ d_127_121 ?_
    exact s_iret hJ d_127_122 rfl rfl (h0 c0)
  · skip
    refine s_iload_n hJ d_127_68 rfl ?_
    refine s_if_ne (tgt := 81) hJ d_127_69 rfl (fun c1 => ?_) (fun c1 => ?_)
    · skip
      refine s_lload_n hJ d_127_81 rfl ?_
      refine s_aload_n hJ d_127_82 rfl ?_
      refine s_iload_n hJ d_127_83 rfl ?_
      refine s_iconst_1 hJ d_127_84 ?_
      refine s_isub hJ d_127_85 ?_
      refine s_iconst_0 hJ d_127_86 ?_
      exact s_V2 hJ lm_7_78 d_127_87 (Nat.le_of_ble_eq_true rfl) k0 (h1 c0 c1)
    · skip
      refine s_lload_n hJ d_127_72 rfl ?_
      refine s_lconst_1 hJ d_127_73 ?_
      refine s_lif_ne (tgt := 121) hJ d_127_74 d_127_75 rfl (fun c2 => ?_) (fun c2 => ?_)
      · skip
        refine s_iconst_0 hJ d_127_121 ?_
        exact s_iret hJ d_127_122 rfl rfl (h2 c0 c1 c2)
      · skip
        refine s_goto (tgt := 94) hJ d_127_78 rfl ?_
        refine s_aload_n hJ d_127_94 rfl ?_
        refine s_iload_n hJ d_127_95 rfl ?_
        refine s_iconst_1 hJ d_127_96 ?_
        exact s_V2 hJ lm_7_78 d_127_97 (Nat.le_of_ble_eq_true rfl) k0 (h3 c0 c1 c2)
set_option maxRecDepth 4000 in
theorem b_127_90 {mc ms : Nat} {X : Option (Nat × (Nat → Int32))} {T : aj_Tt} {Q : aj_Q} {J : aj_J} (hJ : aj_Cl 7 c_127 (some .boolean) false mc ms X T Q J) {o0 : Nat} {x1 : Int32} {w2 : Option Value} {w3 : Option Value} {s0 : Int64} {s1 : Int64} {Z : aj_Z} {I : aj_I} {G : aj_G} {C : Nat × Nat} (h0 : s1 ≤ s0 → Q (some (.int 0)) Z I G) (k0 : Z.2.1 o0 = some (.inl 7)) (h1 : ¬ s1 ≤ s0 → T 0 0 123 [.ref o0, .int x1, .int 1] Z I G (fun r Z1 I1 G1 => J 100 [some (.ref o0), some (.int x1), w2, w3] (r.toList ++ []) Z1 I1 G1 C)) : J 90 [some (.ref o0), some (.int x1), w2, w3] [.long s0, .long s1] Z I G C := by
  refine s_lif_le (tgt := 121) hJ d_127_90 d_127_91 rfl (fun c0 => ?_) (fun c0 => ?_)
  · skip
    refine s_iconst_0 hJ d_127_121 ?_
    exact s_iret hJ d_127_122 rfl rfl (h0 c0)
  · skip
    refine s_aload_n hJ d_127_94 rfl ?_
    refine s_iload_n hJ d_127_95 rfl ?_
    refine s_iconst_1 hJ d_127_96 ?_
    exact s_V2 hJ lm_7_78 d_127_97 (Nat.le_of_ble_eq_true rfl) k0 (h1 c0)
set_option maxRecDepth 4000 in
theorem b_127_100 {mc ms : Nat} {X : Option (Nat × (Nat → Int32))} {T : aj_Tt} {Q : aj_Q} {J : aj_J} (hJ : aj_Cl 7 c_127 (some .boolean) false mc ms X T Q J) {o0 : Nat} {x1 : Int32} {w2 : Option Value} {w3 : Option Value} {s0 : Int64} {Z : aj_Z} {I : aj_I} {G : aj_G} {C : Nat × Nat} (h0 : T 0 0 128 [.long s0] Z I G (fun r Z1 I1 G1 => J 103 [some (.ref o0), some (.int x1), w2, w3] (r.toList ++ []) Z1 I1 G1 C)) : J 100 [some (.ref o0), some (.int x1), w2, w3] [.long s0] Z I G C := by
  exact s_S1 hJ lm_7_81 d_127_100 (Nat.le_of_ble_eq_true rfl) (h0)
set_option maxRecDepth 4000 in
theorem b_127_103 {mc ms : Nat} {X : Option (Nat × (Nat → Int32))} {T : aj_Tt} {Q : aj_Q} {J : aj_J} (hJ : aj_Cl 7 c_127 (some .boolean) false mc ms X T Q J) {o0 : Nat} {x1 : Int32} {w2 : Option Value} {w3 : Option Value} {s0 : Int32} {Z : aj_Z} {I : aj_I} {G : aj_G} {C : Nat × Nat} (h0 : s0 = 0 → Q (some (.int 0)) Z I G) (k0 : Z.2.1 o0 = some (.inl 7)) (h1 : ¬ s0 = 0 → T 0 0 123 [.ref o0, .int x1, .int 2] Z I G (fun r Z1 I1 G1 => J 112 [some (.ref o0), some (.int x1), w2, w3] (r.toList ++ []) Z1 I1 G1 C)) : J 103 [some (.ref o0), some (.int x1), w2, w3] [.int s0] Z I G C := by
  refine s_if_eq (tgt := 121) hJ d_127_103 rfl (fun c0 => ?_) (fun c0 => ?_)
  · skip
    refine s_iconst_0 hJ d_127_121 ?_
    exact s_iret hJ d_127_122 rfl rfl (h0 c0)
  · skip
    refine s_aload_n hJ d_127_106 rfl ?_
    refine s_iload_n hJ d_127_107 rfl ?_
    refine s_iconst_2 hJ d_127_108 ?_
    exact s_V2 hJ lm_7_78 d_127_109 (Nat.le_of_ble_eq_true rfl) k0 (h1 c0)
set_option maxRecDepth 4000 in
theorem b_127_112 {mc ms : Nat} {X : Option (Nat × (Nat → Int32))} {T : aj_Tt} {Q : aj_Q} {J : aj_J} (hJ : aj_Cl 7 c_127 (some .boolean) false mc ms X T Q J) {w0 : Option Value} {w1 : Option Value} {w2 : Option Value} {w3 : Option Value} {s0 : Int64} {Z : aj_Z} {I : aj_I} {G : aj_G} {C : Nat × Nat} (h0 : ¬ s0 = 1 → Q (some (.int 0)) Z I G) (h1 : s0 = 1 → Q (some (.int 1)) Z I G) : J 112 [w0, w1, w2, w3] [.long s0] Z I G C := by
  refine s_lconst_1 hJ d_127_112 ?_
  refine s_lif_ne (tgt := 121) hJ d_127_113 d_127_114 rfl (fun c0 => ?_) (fun c0 => ?_)
  · skip
    refine s_iconst_0 hJ d_127_121 ?_
    exact s_iret hJ d_127_122 rfl rfl (h0 c0)
  · skip
    refine s_iconst_1 hJ d_127_117 ?_
    refine s_goto (tgt := 122) hJ d_127_118 rfl ?_
    exact s_iret hJ d_127_122 rfl rfl (h1 c0)
set_option maxRecDepth 4000 in
theorem b_127_127 {mc ms : Nat} {X : Option (Nat × (Nat → Int32))} {T : aj_Tt} {Q : aj_Q} {J : aj_J} (hJ : aj_Cl 7 c_127 (some .boolean) false mc ms X T Q J) {w0 : Option Value} {w1 : Option Value} {w2 : Option Value} {w3 : Option Value} {s0 : Int32} {Z : aj_Z} {I : aj_I} {G : aj_G} {C : Nat × Nat} (h0 : ¬ s0 = 0 → Q (some (.int 0)) Z I G) (h1 : s0 = 0 → Q (some (.int 1)) Z I G) : J 127 [w0, w1, w2, w3] [.int s0] Z I G C := by
  refine s_if_ne (tgt := 134) hJ d_127_127 rfl (fun c0 => ?_) (fun c0 => ?_)
  · skip
    refine s_iconst_0 hJ d_127_134 ?_
    exact s_iret hJ d_127_135 rfl rfl (h0 c0)
  · skip
    refine s_iconst_1 hJ d_127_130 ?_
    refine s_goto (tgt := 135) hJ d_127_131 rfl ?_
    exact s_iret hJ d_127_135 rfl rfl (h1 c0)
-- ReelOfBoxes$Table.isCount(J)Z : method 128
theorem d_128_0 : decode c_128 0 = .ok (.lload_n 0, 1) := by decide +kernel
theorem d_128_1 : decode c_128 1 = .ok (.lconst 1, 1) := by decide +kernel
theorem d_128_2 : decode c_128 2 = .ok (.lcmp, 1) := by decide +kernel
theorem d_128_3 : decode c_128 3 = .ok (.ifCond .lt (14), 3) := by decide +kernel
theorem d_128_6 : decode c_128 6 = .ok (.lload_n 0, 1) := by decide +kernel
theorem d_128_7 : decode c_128 7 = .ok (.invokestatic 74, 3) := by decide +kernel
theorem d_128_10 : decode c_128 10 = .ok (.ifCond .ne (7), 3) := by decide +kernel
theorem d_128_13 : decode c_128 13 = .ok (.iconst (1), 1) := by decide +kernel
theorem d_128_14 : decode c_128 14 = .ok (.goto (4), 3) := by decide +kernel
theorem d_128_17 : decode c_128 17 = .ok (.iconst (0), 1) := by decide +kernel
theorem d_128_18 : decode c_128 18 = .ok (.ireturn, 1) := by decide +kernel
set_option maxRecDepth 4000 in
theorem b_128_0 {mc ms : Nat} {X : Option (Nat × (Nat → Int32))} {T : aj_Tt} {Q : aj_Q} {J : aj_J} (hJ : aj_Cl 7 c_128 (some .boolean) false mc ms X T Q J) {x0 : Int64} {Z : aj_Z} {I : aj_I} {G : aj_G} {C : Nat × Nat} (h0 : x0 < 1 → Q (some (.int 0)) Z I G) (h1 : ¬ x0 < 1 → T 0 0 17 [.long x0] Z I G (fun r Z1 I1 G1 => J 10 [some (.long x0), none] (r.toList ++ []) Z1 I1 G1 C)) : J 0 [some (.long x0), none] [] Z I G C := by
  refine s_lload_n hJ d_128_0 rfl ?_
  refine s_lconst_1 hJ d_128_1 ?_
  refine s_lif_lt (tgt := 17) hJ d_128_2 d_128_3 rfl (fun c0 => ?_) (fun c0 => ?_)
  · skip
    refine s_iconst_0 hJ d_128_17 ?_
    exact s_iret hJ d_128_18 rfl rfl (h0 c0)
  · skip
    refine s_lload_n hJ d_128_6 rfl ?_
    exact s_S1 hJ lm_7_74 d_128_7 (Nat.le_of_ble_eq_true rfl) (h1 c0)
set_option maxRecDepth 4000 in
theorem b_128_10 {mc ms : Nat} {X : Option (Nat × (Nat → Int32))} {T : aj_Tt} {Q : aj_Q} {J : aj_J} (hJ : aj_Cl 7 c_128 (some .boolean) false mc ms X T Q J) {w0 : Option Value} {w1 : Option Value} {s0 : Int32} {Z : aj_Z} {I : aj_I} {G : aj_G} {C : Nat × Nat} (h0 : ¬ s0 = 0 → Q (some (.int 0)) Z I G) (h1 : s0 = 0 → Q (some (.int 1)) Z I G) : J 10 [w0, w1] [.int s0] Z I G C := by
  refine s_if_ne (tgt := 17) hJ d_128_10 rfl (fun c0 => ?_) (fun c0 => ?_)
  · skip
    refine s_iconst_0 hJ d_128_17 ?_
    exact s_iret hJ d_128_18 rfl rfl (h0 c0)
  · skip
    refine s_iconst_1 hJ d_128_13 ?_
    refine s_goto (tgt := 18) hJ d_128_14 rfl ?_
    exact s_iret hJ d_128_18 rfl rfl (h1 c0)
-- ReelOfBoxes$TrackBoxes.<init>(LReelOfBoxes$ByteRow;)V : method 138
theorem d_138_0 : decode c_138 0 = .ok (.aload_n 0, 1) := by decide +kernel
theorem d_138_1 : decode c_138 1 = .ok (.invokespecial 3, 3) := by decide +kernel
theorem d_138_4 : decode c_138 4 = .ok (.aload_n 0, 1) := by decide +kernel
theorem d_138_5 : decode c_138 5 = .ok (.iconst (4), 1) := by decide +kernel
theorem d_138_6 : decode c_138 6 = .ok (.anewarray 9, 3) := by decide +kernel
theorem d_138_9 : decode c_138 9 = .ok (.putfield 11, 3) := by decide +kernel
theorem d_138_12 : decode c_138 12 = .ok (.aload_n 0, 1) := by decide +kernel
theorem d_138_13 : decode c_138 13 = .ok (.bipush (16), 2) := by decide +kernel
theorem d_138_15 : decode c_138 15 = .ok (.newarray .int, 2) := by decide +kernel
theorem d_138_17 : decode c_138 17 = .ok (.putfield 17, 3) := by decide +kernel
theorem d_138_20 : decode c_138 20 = .ok (.aload_n 0, 1) := by decide +kernel
theorem d_138_21 : decode c_138 21 = .ok (.bipush (16), 2) := by decide +kernel
theorem d_138_23 : decode c_138 23 = .ok (.newarray .int, 2) := by decide +kernel
theorem d_138_25 : decode c_138 25 = .ok (.putfield 21, 3) := by decide +kernel
theorem d_138_28 : decode c_138 28 = .ok (.aload_n 0, 1) := by decide +kernel
theorem d_138_29 : decode c_138 29 = .ok (.bipush (16), 2) := by decide +kernel
theorem d_138_31 : decode c_138 31 = .ok (.newarray .long, 2) := by decide +kernel
theorem d_138_33 : decode c_138 33 = .ok (.putfield 24, 3) := by decide +kernel
theorem d_138_36 : decode c_138 36 = .ok (.aload_n 0, 1) := by decide +kernel
theorem d_138_37 : decode c_138 37 = .ok (.iconst (0), 1) := by decide +kernel
theorem d_138_38 : decode c_138 38 = .ok (.putfield 28, 3) := by decide +kernel
theorem d_138_41 : decode c_138 41 = .ok (.aload_n 0, 1) := by decide +kernel
theorem d_138_42 : decode c_138 42 = .ok (.iconst (-1), 1) := by decide +kernel
theorem d_138_43 : decode c_138 43 = .ok (.putfield 32, 3) := by decide +kernel
theorem d_138_46 : decode c_138 46 = .ok (.iconst (0), 1) := by decide +kernel
theorem d_138_47 : decode c_138 47 = .ok (.istore_n 2, 1) := by decide +kernel
theorem d_138_48 : decode c_138 48 = .ok (.iload_n 2, 1) := by decide +kernel
theorem d_138_49 : decode c_138 49 = .ok (.iconst (4), 1) := by decide +kernel
theorem d_138_50 : decode c_138 50 = .ok (.if_icmp .ge (23), 3) := by decide +kernel
theorem d_138_53 : decode c_138 53 = .ok (.aload_n 0, 1) := by decide +kernel
theorem d_138_54 : decode c_138 54 = .ok (.getfield 11, 3) := by decide +kernel
theorem d_138_57 : decode c_138 57 = .ok (.iload_n 2, 1) := by decide +kernel
theorem d_138_58 : decode c_138 58 = .ok (.new 9, 3) := by decide +kernel
theorem d_138_61 : decode c_138 61 = .ok (.dup, 1) := by decide +kernel
theorem d_138_62 : decode c_138 62 = .ok (.aload_n 1, 1) := by decide +kernel
theorem d_138_63 : decode c_138 63 = .ok (.invokespecial 35, 3) := by decide +kernel
theorem d_138_66 : decode c_138 66 = .ok (.aastore, 1) := by decide +kernel
theorem d_138_67 : decode c_138 67 = .ok (.iinc 2 (1), 3) := by decide +kernel
theorem d_138_70 : decode c_138 70 = .ok (.goto (-22), 3) := by decide +kernel
theorem d_138_73 : decode c_138 73 = .ok (.return_, 1) := by decide +kernel
-- ReelOfBoxes$TrackBoxes.forget()V : method 139
theorem d_139_0 : decode c_139 0 = .ok (.aload_n 0, 1) := by decide +kernel
theorem d_139_1 : decode c_139 1 = .ok (.iconst (-1), 1) := by decide +kernel
theorem d_139_2 : decode c_139 2 = .ok (.putfield 32, 3) := by decide +kernel
theorem d_139_5 : decode c_139 5 = .ok (.aload_n 0, 1) := by decide +kernel
theorem d_139_6 : decode c_139 6 = .ok (.iconst (0), 1) := by decide +kernel
theorem d_139_7 : decode c_139 7 = .ok (.putfield 28, 3) := by decide +kernel
theorem d_139_10 : decode c_139 10 = .ok (.iconst (0), 1) := by decide +kernel
theorem d_139_11 : decode c_139 11 = .ok (.istore_n 1, 1) := by decide +kernel
theorem d_139_12 : decode c_139 12 = .ok (.iload_n 1, 1) := by decide +kernel
theorem d_139_13 : decode c_139 13 = .ok (.iconst (4), 1) := by decide +kernel
theorem d_139_14 : decode c_139 14 = .ok (.if_icmp .ge (18), 3) := by decide +kernel
theorem d_139_17 : decode c_139 17 = .ok (.aload_n 0, 1) := by decide +kernel
theorem d_139_18 : decode c_139 18 = .ok (.getfield 11, 3) := by decide +kernel
theorem d_139_21 : decode c_139 21 = .ok (.iload_n 1, 1) := by decide +kernel
theorem d_139_22 : decode c_139 22 = .ok (.aaload, 1) := by decide +kernel
theorem d_139_23 : decode c_139 23 = .ok (.invokevirtual 38, 3) := by decide +kernel
theorem d_139_26 : decode c_139 26 = .ok (.iinc 1 (1), 3) := by decide +kernel
theorem d_139_29 : decode c_139 29 = .ok (.goto (-17), 3) := by decide +kernel
theorem d_139_32 : decode c_139 32 = .ok (.return_, 1) := by decide +kernel
set_option maxRecDepth 4000 in
theorem b_139_0 {mc ms : Nat} {X : Option (Nat × (Nat → Int32))} {T : aj_Tt} {Q : aj_Q} {J : aj_J} (hJ : aj_Cl 9 c_139 (none) false mc ms X T Q J) {o0 : Nat} {Z : aj_Z} {I : aj_I} {G : aj_G} {C : Nat × Nat} (k0 : Z.2.1 o0 = some (.inl 9)) (h0 : J 12 [some (.ref o0), some (.int 0)] [] Z (aj_u2 (aj_u2 I o0 5 (-1)) o0 4 0) G C) : J 0 [some (.ref o0), none] [] Z I G C := by
  refine s_aload_n hJ d_139_0 rfl ?_
  refine s_iconst_m1 hJ d_139_1 ?_
  refine s_puti hJ lf_9_32 rfl d_139_2 k0 ?_
  refine s_aload_n hJ d_139_5 rfl ?_
  refine s_iconst_0 hJ d_139_6 ?_
  refine s_puti hJ lf_9_28 rfl d_139_7 k0 ?_
  refine s_iconst_0 hJ d_139_10 ?_
  refine s_istore_n hJ d_139_11 (Nat.le_of_ble_eq_true rfl) ?_
  exact h0
set_option maxRecDepth 4000 in
theorem b_139_12 {mc ms : Nat} {X : Option (Nat × (Nat → Int32))} {T : aj_Tt} {Q : aj_Q} {J : aj_J} (hJ : aj_Cl 9 c_139 (none) false mc ms X T Q J) {o0 : Nat} {x1 : Int32} {q0 : Nat} {nk1 : Nat} {q1 : Nat} {Z : aj_Z} {I : aj_I} {G : aj_G} {C : Nat × Nat} (h0 : 4 ≤ x1 → Q none Z I G) (k0 : Z.2.1 o0 = some (.inl 9)) (r0 : Z.2.2 o0 0 = .ref q0) (k1 : Z.2.1 q0 = some (.inr (6, nk1))) (h1 : ¬ 4 ≤ x1 → vp_in x1 nk1) (h2 : ¬ 4 ≤ x1 → Z.2.2 q0 (Int32.toNatClampNeg x1) = .ref q1) (k3 : Z.2.1 q1 = some (.inl 7)) (h3 : ¬ 4 ≤ x1 → T 0 0 116 [.ref q1] Z I G (fun r Z1 I1 G1 => J 26 [some (.ref o0), some (.int x1)] (r.toList ++ []) Z1 I1 G1 C)) : J 12 [some (.ref o0), some (.int x1)] [] Z I G C := by
  refine s_iload_n hJ d_139_12 rfl ?_
  refine s_iconst_4 hJ d_139_13 ?_
  refine s_icmp_ge (tgt := 32) hJ d_139_14 rfl (fun c0 => ?_) (fun c0 => ?_)
  · skip
    exact s_vret hJ d_139_32 rfl (h0 c0)
  · skip
    refine s_aload_n hJ d_139_17 rfl ?_
    refine s_getr hJ lf_9_11 rfl d_139_18 k0 r0 ?_
    refine s_iload_n hJ d_139_21 rfl ?_
    refine s_aald hJ d_139_22 k1 tc_6 (h1 c0) (h2 c0) ?_
    exact s_V0 hJ lm_9_38 d_139_23 (Nat.le_of_ble_eq_true rfl) k3 (h3 c0)
set_option maxRecDepth 4000 in
theorem b_139_26 {mc ms : Nat} {X : Option (Nat × (Nat → Int32))} {T : aj_Tt} {Q : aj_Q} {J : aj_J} (hJ : aj_Cl 9 c_139 (none) false mc ms X T Q J) {o0 : Nat} {x1 : Int32} {Z : aj_Z} {I : aj_I} {G : aj_G} {C : Nat × Nat} (h0 : J 12 [some (.ref o0), some (.int (x1 + 1))] [] Z I G C) : J 26 [some (.ref o0), some (.int x1)] [] Z I G C := by
  refine s_iinc (v := 1) hJ d_139_26 rfl (by decide) ?_
  refine s_goto (tgt := 12) hJ d_139_29 rfl ?_
  exact h0
-- ReelOfBoxes$TrackBoxes.hasStbl()Z : method 140
theorem d_140_0 : decode c_140 0 = .ok (.aload_n 0, 1) := by decide +kernel
theorem d_140_1 : decode c_140 1 = .ok (.getfield 32, 3) := by decide +kernel
theorem d_140_4 : decode c_140 4 = .ok (.iconst (-1), 1) := by decide +kernel
theorem d_140_5 : decode c_140 5 = .ok (.if_icmp .eq (7), 3) := by decide +kernel
theorem d_140_8 : decode c_140 8 = .ok (.iconst (1), 1) := by decide +kernel
theorem d_140_9 : decode c_140 9 = .ok (.goto (4), 3) := by decide +kernel
theorem d_140_12 : decode c_140 12 = .ok (.iconst (0), 1) := by decide +kernel
theorem d_140_13 : decode c_140 13 = .ok (.ireturn, 1) := by decide +kernel
set_option maxRecDepth 4000 in
theorem b_140_0 {mc ms : Nat} {X : Option (Nat × (Nat → Int32))} {T : aj_Tt} {Q : aj_Q} {J : aj_J} (hJ : aj_Cl 9 c_140 (some .boolean) false mc ms X T Q J) {o0 : Nat} {Z : aj_Z} {I : aj_I} {G : aj_G} {C : Nat × Nat} (k0 : Z.2.1 o0 = some (.inl 9)) (h0 : (I o0 5) = (-1) → Q (some (.int 0)) Z I G) (h1 : ¬ (I o0 5) = (-1) → Q (some (.int 1)) Z I G) : J 0 [some (.ref o0)] [] Z I G C := by
  refine s_aload_n hJ d_140_0 rfl ?_
  refine s_geti hJ lf_9_32 rfl d_140_1 k0 ?_
  refine s_iconst_m1 hJ d_140_4 ?_
  refine s_icmp_eq (tgt := 12) hJ d_140_5 rfl (fun c0 => ?_) (fun c0 => ?_)
  · skip
    refine s_iconst_0 hJ d_140_12 ?_
    exact s_iret hJ d_140_13 rfl rfl (h0 c0)
  · skip
    refine s_iconst_1 hJ d_140_8 ?_
    refine s_goto (tgt := 13) hJ d_140_9 rfl ?_
    exact s_iret hJ d_140_13 rfl rfl (h1 c0)
-- ReelOfBoxes$TrackBoxes.takeStbl(I)Z : method 141
theorem d_141_0 : decode c_141 0 = .ok (.aload_n 0, 1) := by decide +kernel
theorem d_141_1 : decode c_141 1 = .ok (.getfield 32, 3) := by decide +kernel
theorem d_141_4 : decode c_141 4 = .ok (.iconst (-1), 1) := by decide +kernel
theorem d_141_5 : decode c_141 5 = .ok (.if_icmp .eq (5), 3) := by decide +kernel
theorem d_141_8 : decode c_141 8 = .ok (.iconst (0), 1) := by decide +kernel
theorem d_141_9 : decode c_141 9 = .ok (.ireturn, 1) := by decide +kernel
theorem d_141_10 : decode c_141 10 = .ok (.aload_n 0, 1) := by decide +kernel
theorem d_141_11 : decode c_141 11 = .ok (.iload_n 1, 1) := by decide +kernel
theorem d_141_12 : decode c_141 12 = .ok (.putfield 32, 3) := by decide +kernel
theorem d_141_15 : decode c_141 15 = .ok (.iconst (1), 1) := by decide +kernel
theorem d_141_16 : decode c_141 16 = .ok (.ireturn, 1) := by decide +kernel
set_option maxRecDepth 4000 in
theorem b_141_0 {mc ms : Nat} {X : Option (Nat × (Nat → Int32))} {T : aj_Tt} {Q : aj_Q} {J : aj_J} (hJ : aj_Cl 9 c_141 (some .boolean) false mc ms X T Q J) {o0 : Nat} {x1 : Int32} {Z : aj_Z} {I : aj_I} {G : aj_G} {C : Nat × Nat} (k0 : Z.2.1 o0 = some (.inl 9)) (h0 : (I o0 5) = (-1) → Q (some (.int 1)) Z (aj_u2 I o0 5 x1) G) (h1 : ¬ (I o0 5) = (-1) → Q (some (.int 0)) Z I G) : J 0 [some (.ref o0), some (.int x1)] [] Z I G C := by
  refine s_aload_n hJ d_141_0 rfl ?_
  refine s_geti hJ lf_9_32 rfl d_141_1 k0 ?_
  refine s_iconst_m1 hJ d_141_4 ?_
  refine s_icmp_eq (tgt := 10) hJ d_141_5 rfl (fun c0 => ?_) (fun c0 => ?_)
  · skip
    refine s_aload_n hJ d_141_10 rfl ?_
    refine s_iload_n hJ d_141_11 rfl ?_
    refine s_puti hJ lf_9_32 rfl d_141_12 k0 ?_
    refine s_iconst_1 hJ d_141_15 ?_
    exact s_iret hJ d_141_16 rfl rfl (h0 c0)
  · skip
    refine s_iconst_0 hJ d_141_8 ?_
    exact s_iret hJ d_141_9 rfl rfl (h1 c0)
-- ReelOfBoxes$TrackBoxes.tableFor(I)LReelOfBoxes$Table; : method 142
theorem d_142_0 : decode c_142 0 = .ok (.iload_n 1, 1) := by decide +kernel
theorem d_142_1 : decode c_142 1 = .ok (.invokestatic 41, 3) := by decide +kernel
theorem d_142_4 : decode c_142 4 = .ok (.istore_n 2, 1) := by decide +kernel
theorem d_142_5 : decode c_142 5 = .ok (.iload_n 2, 1) := by decide +kernel
theorem d_142_6 : decode c_142 6 = .ok (.iconst (-1), 1) := by decide +kernel
theorem d_142_7 : decode c_142 7 = .ok (.if_icmp .ne (7), 3) := by decide +kernel
theorem d_142_10 : decode c_142 10 = .ok (.aconst_null, 1) := by decide +kernel
theorem d_142_11 : decode c_142 11 = .ok (.goto (9), 3) := by decide +kernel
theorem d_142_14 : decode c_142 14 = .ok (.aload_n 0, 1) := by decide +kernel
theorem d_142_15 : decode c_142 15 = .ok (.getfield 11, 3) := by decide +kernel
theorem d_142_18 : decode c_142 18 = .ok (.iload_n 2, 1) := by decide +kernel
theorem d_142_19 : decode c_142 19 = .ok (.aaload, 1) := by decide +kernel
theorem d_142_20 : decode c_142 20 = .ok (.areturn, 1) := by decide +kernel
set_option maxRecDepth 4000 in
theorem b_142_0 {mc ms : Nat} {X : Option (Nat × (Nat → Int32))} {T : aj_Tt} {Q : aj_Q} {J : aj_J} (hJ : aj_Cl 9 c_142 (some (.object "ReelOfBoxes$Table")) false mc ms X T Q J) {o0 : Nat} {x1 : Int32} {Z : aj_Z} {I : aj_I} {G : aj_G} {C : Nat × Nat} (h0 : T 0 0 18 [.int x1] Z I G (fun r Z1 I1 G1 => J 4 [some (.ref o0), some (.int x1), none] (r.toList ++ []) Z1 I1 G1 C)) : J 0 [some (.ref o0), some (.int x1), none] [] Z I G C := by
  refine s_iload_n hJ d_142_0 rfl ?_
  exact s_S1 hJ lm_9_41 d_142_1 (Nat.le_of_ble_eq_true rfl) (h0)
set_option maxRecDepth 4000 in
theorem b_142_4 {mc ms : Nat} {X : Option (Nat × (Nat → Int32))} {T : aj_Tt} {Q : aj_Q} {J : aj_J} (hJ : aj_Cl 9 c_142 (some (.object "ReelOfBoxes$Table")) false mc ms X T Q J) {o0 : Nat} {w1 : Option Value} {w2 : Option Value} {s0 : Int32} {q0 : Nat} {nk1 : Nat} {q1 : Nat} {Z : aj_Z} {I : aj_I} {G : aj_G} {C : Nat × Nat} (k0 : Z.2.1 o0 = some (.inl 9)) (r0 : Z.2.2 o0 0 = .ref q0) (k1 : Z.2.1 q0 = some (.inr (6, nk1))) (h0 : ¬ s0 = (-1) → vp_in s0 nk1) (h1 : ¬ s0 = (-1) → Z.2.2 q0 (Int32.toNatClampNeg s0) = .ref q1) (h2 : ¬ s0 = (-1) → Q (some (.ref q1)) Z I G) (h3 : s0 = (-1) → Q (some (.null)) Z I G) : J 4 [some (.ref o0), w1, w2] [.int s0] Z I G C := by
  refine s_istore_n hJ d_142_4 (Nat.le_of_ble_eq_true rfl) ?_
  refine s_iload_n hJ d_142_5 rfl ?_
  refine s_iconst_m1 hJ d_142_6 ?_
  refine s_icmp_ne (tgt := 14) hJ d_142_7 rfl (fun c0 => ?_) (fun c0 => ?_)
  · skip
    refine s_aload_n hJ d_142_14 rfl ?_
    refine s_getr hJ lf_9_11 rfl d_142_15 k0 r0 ?_
    refine s_iload_n hJ d_142_18 rfl ?_
    refine s_aald hJ d_142_19 k1 tc_6 (h0 c0) (h1 c0) ?_
    exact s_aret hJ d_142_20 rfl (Or.inr ⟨_, rfl⟩) (h2 c0)
  · skip
    refine s_null hJ d_142_10 ?_
    refine s_goto (tgt := 20) hJ d_142_11 rfl ?_
    exact s_aret hJ d_142_20 rfl (Or.inl rfl) (h3 c0)
-- ReelOfBoxes$TrackBoxes.hasAllTables()Z : method 143
theorem d_143_0 : decode c_143 0 = .ok (.iconst (0), 1) := by decide +kernel
theorem d_143_1 : decode c_143 1 = .ok (.istore_n 1, 1) := by decide +kernel
theorem d_143_2 : decode c_143 2 = .ok (.iload_n 1, 1) := by decide +kernel
theorem d_143_3 : decode c_143 3 = .ok (.iconst (4), 1) := by decide +kernel
theorem d_143_4 : decode c_143 4 = .ok (.if_icmp .ge (23), 3) := by decide +kernel
theorem d_143_7 : decode c_143 7 = .ok (.aload_n 0, 1) := by decide +kernel
theorem d_143_8 : decode c_143 8 = .ok (.getfield 11, 3) := by decide +kernel
theorem d_143_11 : decode c_143 11 = .ok (.iload_n 1, 1) := by decide +kernel
theorem d_143_12 : decode c_143 12 = .ok (.aaload, 1) := by decide +kernel
theorem d_143_13 : decode c_143 13 = .ok (.invokevirtual 45, 3) := by decide +kernel
theorem d_143_16 : decode c_143 16 = .ok (.ifCond .ne (5), 3) := by decide +kernel
theorem d_143_19 : decode c_143 19 = .ok (.iconst (0), 1) := by decide +kernel
theorem d_143_20 : decode c_143 20 = .ok (.ireturn, 1) := by decide +kernel
theorem d_143_21 : decode c_143 21 = .ok (.iinc 1 (1), 3) := by decide +kernel
theorem d_143_24 : decode c_143 24 = .ok (.goto (-22), 3) := by decide +kernel
theorem d_143_27 : decode c_143 27 = .ok (.iconst (1), 1) := by decide +kernel
theorem d_143_28 : decode c_143 28 = .ok (.ireturn, 1) := by decide +kernel
set_option maxRecDepth 4000 in
theorem b_143_0 {mc ms : Nat} {X : Option (Nat × (Nat → Int32))} {T : aj_Tt} {Q : aj_Q} {J : aj_J} (hJ : aj_Cl 9 c_143 (some .boolean) false mc ms X T Q J) {o0 : Nat} {Z : aj_Z} {I : aj_I} {G : aj_G} {C : Nat × Nat} (h0 : J 2 [some (.ref o0), some (.int 0)] [] Z I G C) : J 0 [some (.ref o0), none] [] Z I G C := by
  refine s_iconst_0 hJ d_143_0 ?_
  refine s_istore_n hJ d_143_1 (Nat.le_of_ble_eq_true rfl) ?_
  exact h0
set_option maxRecDepth 4000 in
theorem b_143_2 {mc ms : Nat} {X : Option (Nat × (Nat → Int32))} {T : aj_Tt} {Q : aj_Q} {J : aj_J} (hJ : aj_Cl 9 c_143 (some .boolean) false mc ms X T Q J) {o0 : Nat} {x1 : Int32} {q0 : Nat} {nk1 : Nat} {q1 : Nat} {Z : aj_Z} {I : aj_I} {G : aj_G} {C : Nat × Nat} (h0 : 4 ≤ x1 → Q (some (.int 1)) Z I G) (k0 : Z.2.1 o0 = some (.inl 9)) (r0 : Z.2.2 o0 0 = .ref q0) (k1 : Z.2.1 q0 = some (.inr (6, nk1))) (h1 : ¬ 4 ≤ x1 → vp_in x1 nk1) (h2 : ¬ 4 ≤ x1 → Z.2.2 q0 (Int32.toNatClampNeg x1) = .ref q1) (k3 : Z.2.1 q1 = some (.inl 7)) (h3 : ¬ 4 ≤ x1 → T 0 0 117 [.ref q1] Z I G (fun r Z1 I1 G1 => J 16 [some (.ref o0), some (.int x1)] (r.toList ++ []) Z1 I1 G1 C)) : J 2 [some (.ref o0), some (.int x1)] [] Z I G C := by
  refine s_iload_n hJ d_143_2 rfl ?_
  refine s_iconst_4 hJ d_143_3 ?_
  refine s_icmp_ge (tgt := 27) hJ d_143_4 rfl (fun c0 => ?_) (fun c0 => ?_)
  · skip
    refine s_iconst_1 hJ d_143_27 ?_
    exact s_iret hJ d_143_28 rfl rfl (h0 c0)
  · skip
    refine s_aload_n hJ d_143_7 rfl ?_
    refine s_getr hJ lf_9_11 rfl d_143_8 k0 r0 ?_
    refine s_iload_n hJ d_143_11 rfl ?_
    refine s_aald hJ d_143_12 k1 tc_6 (h1 c0) (h2 c0) ?_
    exact s_V0 hJ lm_9_45 d_143_13 (Nat.le_of_ble_eq_true rfl) k3 (h3 c0)
set_option maxRecDepth 4000 in
theorem b_143_16 {mc ms : Nat} {X : Option (Nat × (Nat → Int32))} {T : aj_Tt} {Q : aj_Q} {J : aj_J} (hJ : aj_Cl 9 c_143 (some .boolean) false mc ms X T Q J) {o0 : Nat} {x1 : Int32} {s0 : Int32} {Z : aj_Z} {I : aj_I} {G : aj_G} {C : Nat × Nat} (h0 : ¬ s0 = 0 → J 2 [some (.ref o0), some (.int (x1 + 1))] [] Z I G C) (h1 : s0 = 0 → Q (some (.int 0)) Z I G) : J 16 [some (.ref o0), some (.int x1)] [.int s0] Z I G C := by
  refine s_if_ne (tgt := 21) hJ d_143_16 rfl (fun c0 => ?_) (fun c0 => ?_)
  · skip
    refine s_iinc (v := 1) hJ d_143_21 rfl (by decide) ?_
    refine s_goto (tgt := 2) hJ d_143_24 rfl ?_
    exact h0 c0
  · skip
    refine s_iconst_0 hJ d_143_19 ?_
    exact s_iret hJ d_143_20 rfl rfl (h1 c0)
-- ReelOfBoxes$TrackBoxes.tablesAgree()Z : method 144
theorem d_144_0 : decode c_144 0 = .ok (.aload_n 0, 1) := by decide +kernel
theorem d_144_1 : decode c_144 1 = .ok (.getfield 11, 3) := by decide +kernel
theorem d_144_4 : decode c_144 4 = .ok (.iconst (2), 1) := by decide +kernel
theorem d_144_5 : decode c_144 5 = .ok (.aaload, 1) := by decide +kernel
theorem d_144_6 : decode c_144 6 = .ok (.invokevirtual 49, 3) := by decide +kernel
theorem d_144_9 : decode c_144 9 = .ok (.lstore_n 1, 1) := by decide +kernel
theorem d_144_10 : decode c_144 10 = .ok (.aload_n 0, 1) := by decide +kernel
theorem d_144_11 : decode c_144 11 = .ok (.getfield 11, 3) := by decide +kernel
theorem d_144_14 : decode c_144 14 = .ok (.iconst (3), 1) := by decide +kernel
theorem d_144_15 : decode c_144 15 = .ok (.aaload, 1) := by decide +kernel
theorem d_144_16 : decode c_144 16 = .ok (.invokevirtual 49, 3) := by decide +kernel
theorem d_144_19 : decode c_144 19 = .ok (.lstore_n 3, 1) := by decide +kernel
theorem d_144_20 : decode c_144 20 = .ok (.lload_n 1, 1) := by decide +kernel
theorem d_144_21 : decode c_144 21 = .ok (.ldc2_w 53, 3) := by decide +kernel
theorem d_144_24 : decode c_144 24 = .ok (.lcmp, 1) := by decide +kernel
theorem d_144_25 : decode c_144 25 = .ok (.ifCond .gt (11), 3) := by decide +kernel
theorem d_144_28 : decode c_144 28 = .ok (.lload_n 3, 1) := by decide +kernel
theorem d_144_29 : decode c_144 29 = .ok (.ldc2_w 53, 3) := by decide +kernel
theorem d_144_32 : decode c_144 32 = .ok (.lcmp, 1) := by decide +kernel
theorem d_144_33 : decode c_144 33 = .ok (.ifCond .le (5), 3) := by decide +kernel
theorem d_144_36 : decode c_144 36 = .ok (.iconst (0), 1) := by decide +kernel
theorem d_144_37 : decode c_144 37 = .ok (.ireturn, 1) := by decide +kernel
theorem d_144_38 : decode c_144 38 = .ok (.aload_n 0, 1) := by decide +kernel
theorem d_144_39 : decode c_144 39 = .ok (.invokevirtual 55, 3) := by decide +kernel
theorem d_144_42 : decode c_144 42 = .ok (.lload_n 1, 1) := by decide +kernel
theorem d_144_43 : decode c_144 43 = .ok (.lcmp, 1) := by decide +kernel
theorem d_144_44 : decode c_144 44 = .ok (.ifCond .ne (36), 3) := by decide +kernel
theorem d_144_47 : decode c_144 47 = .ok (.aload_n 0, 1) := by decide +kernel
theorem d_144_48 : decode c_144 48 = .ok (.lload_n 1, 1) := by decide +kernel
theorem d_144_49 : decode c_144 49 = .ok (.l2i, 1) := by decide +kernel
theorem d_144_50 : decode c_144 50 = .ok (.invokevirtual 58, 3) := by decide +kernel
theorem d_144_53 : decode c_144 53 = .ok (.ifCond .eq (27), 3) := by decide +kernel
theorem d_144_56 : decode c_144 56 = .ok (.aload_n 0, 1) := by decide +kernel
theorem d_144_57 : decode c_144 57 = .ok (.lload_n 3, 1) := by decide +kernel
theorem d_144_58 : decode c_144 58 = .ok (.l2i, 1) := by decide +kernel
theorem d_144_59 : decode c_144 59 = .ok (.invokevirtual 62, 3) := by decide +kernel
theorem d_144_62 : decode c_144 62 = .ok (.ifCond .eq (18), 3) := by decide +kernel
theorem d_144_65 : decode c_144 65 = .ok (.aload_n 0, 1) := by decide +kernel
theorem d_144_66 : decode c_144 66 = .ok (.lload_n 3, 1) := by decide +kernel
theorem d_144_67 : decode c_144 67 = .ok (.l2i, 1) := by decide +kernel
theorem d_144_68 : decode c_144 68 = .ok (.invokevirtual 65, 3) := by decide +kernel
theorem d_144_71 : decode c_144 71 = .ok (.lload_n 1, 1) := by decide +kernel
theorem d_144_72 : decode c_144 72 = .ok (.lcmp, 1) := by decide +kernel
theorem d_144_73 : decode c_144 73 = .ok (.ifCond .ne (7), 3) := by decide +kernel
theorem d_144_76 : decode c_144 76 = .ok (.iconst (1), 1) := by decide +kernel
theorem d_144_77 : decode c_144 77 = .ok (.goto (4), 3) := by decide +kernel
theorem d_144_80 : decode c_144 80 = .ok (.iconst (0), 1) := by decide +kernel
theorem d_144_81 : decode c_144 81 = .ok (.ireturn, 1) := by decide +kernel
set_option maxRecDepth 4000 in
theorem b_144_0 {mc ms : Nat} {X : Option (Nat × (Nat → Int32))} {T : aj_Tt} {Q : aj_Q} {J : aj_J} (hJ : aj_Cl 9 c_144 (some .boolean) false mc ms X T Q J) {o0 : Nat} {q0 : Nat} {nk1 : Nat} {q1 : Nat} {Z : aj_Z} {I : aj_I} {G : aj_G} {C : Nat × Nat} (k0 : Z.2.1 o0 = some (.inl 9)) (r0 : Z.2.2 o0 0 = .ref q0) (k1 : Z.2.1 q0 = some (.inr (6, nk1))) (h0 : vp_in 2 nk1) (h1 : Z.2.2 q0 (Int32.toNatClampNeg 2) = .ref q1) (k3 : Z.2.1 q1 = some (.inl 7)) (h2 : T 0 0 120 [.ref q1] Z I G (fun r Z1 I1 G1 => J 9 [some (.ref o0), none, none, none, none] (r.toList ++ []) Z1 I1 G1 C)) : J 0 [some (.ref o0), none, none, none, none] [] Z I G C := by
  refine s_aload_n hJ d_144_0 rfl ?_
  refine s_getr hJ lf_9_11 rfl d_144_1 k0 r0 ?_
  refine s_iconst_2 hJ d_144_4 ?_
  refine s_aald hJ d_144_5 k1 tc_6 (h0) (h1) ?_
  exact s_V0 hJ lm_9_49 d_144_6 (Nat.le_of_ble_eq_true rfl) k3 (h2)
set_option maxRecDepth 4000 in
theorem b_144_9 {mc ms : Nat} {X : Option (Nat × (Nat → Int32))} {T : aj_Tt} {Q : aj_Q} {J : aj_J} (hJ : aj_Cl 9 c_144 (some .boolean) false mc ms X T Q J) {o0 : Nat} {w1 : Option Value} {w2 : Option Value} {w3 : Option Value} {w4 : Option Value} {s0 : Int64} {q0 : Nat} {nk1 : Nat} {q1 : Nat} {Z : aj_Z} {I : aj_I} {G : aj_G} {C : Nat × Nat} (k0 : Z.2.1 o0 = some (.inl 9)) (r0 : Z.2.2 o0 0 = .ref q0) (k1 : Z.2.1 q0 = some (.inr (6, nk1))) (h0 : vp_in 3 nk1) (h1 : Z.2.2 q0 (Int32.toNatClampNeg 3) = .ref q1) (k3 : Z.2.1 q1 = some (.inl 7)) (h2 : T 0 0 120 [.ref q1] Z I G (fun r Z1 I1 G1 => J 19 [some (.ref o0), some (.long s0), none, w3, w4] (r.toList ++ []) Z1 I1 G1 C)) : J 9 [some (.ref o0), w1, w2, w3, w4] [.long s0] Z I G C := by
  refine s_lstore_n hJ d_144_9 (Nat.le_of_ble_eq_true rfl) ?_
  refine s_aload_n hJ d_144_10 rfl ?_
  refine s_getr hJ lf_9_11 rfl d_144_11 k0 r0 ?_
  refine s_iconst_3 hJ d_144_14 ?_
  refine s_aald hJ d_144_15 k1 tc_6 (h0) (h1) ?_
  exact s_V0 hJ lm_9_49 d_144_16 (Nat.le_of_ble_eq_true rfl) k3 (h2)
set_option maxRecDepth 4000 in
theorem b_144_19 {mc ms : Nat} {X : Option (Nat × (Nat → Int32))} {T : aj_Tt} {Q : aj_Q} {J : aj_J} (hJ : aj_Cl 9 c_144 (some .boolean) false mc ms X T Q J) {o0 : Nat} {x1 : Int64} {w2 : Option Value} {w3 : Option Value} {w4 : Option Value} {s0 : Int64} {Z : aj_Z} {I : aj_I} {G : aj_G} {C : Nat × Nat} (h0 : 16 < x1 → Q (some (.int 0)) Z I G) (k0 : Z.2.1 o0 = some (.inl 9)) (h1 : ¬ 16 < x1 → s0 ≤ 16 → T 0 0 145 [.ref o0] Z I G (fun r Z1 I1 G1 => J 42 [some (.ref o0), some (.long x1), (aj_clr w2), some (.long s0), none] (r.toList ++ []) Z1 I1 G1 C)) (h2 : ¬ 16 < x1 → ¬ s0 ≤ 16 → Q (some (.int 0)) Z I G) : J 19 [some (.ref o0), some (.long x1), w2, w3, w4] [.long s0] Z I G C := by
  refine s_lstore_n hJ d_144_19 (Nat.le_of_ble_eq_true rfl) ?_
  refine s_lload_n hJ d_144_20 rfl ?_
  refine s_ldc2 hJ ll_9_53 d_144_21 ?_
  refine s_lif_gt (tgt := 36) hJ d_144_24 d_144_25 rfl (fun c0 => ?_) (fun c0 => ?_)
  · skip
    refine s_iconst_0 hJ d_144_36 ?_
    exact s_iret hJ d_144_37 rfl rfl (h0 c0)
  · skip
    refine s_lload_n hJ d_144_28 rfl ?_
    refine s_ldc2 hJ ll_9_53 d_144_29 ?_
    refine s_lif_le (tgt := 38) hJ d_144_32 d_144_33 rfl (fun c1 => ?_) (fun c1 => ?_)
    · skip
      refine s_aload_n hJ d_144_38 rfl ?_
      exact s_V0 hJ lm_9_55 d_144_39 (Nat.le_of_ble_eq_true rfl) k0 (h1 c0 c1)
    · skip
      refine s_iconst_0 hJ d_144_36 ?_
      exact s_iret hJ d_144_37 rfl rfl (h2 c0 c1)
set_option maxRecDepth 4000 in
theorem b_144_42 {mc ms : Nat} {X : Option (Nat × (Nat → Int32))} {T : aj_Tt} {Q : aj_Q} {J : aj_J} (hJ : aj_Cl 9 c_144 (some .boolean) false mc ms X T Q J) {o0 : Nat} {x1 : Int64} {w2 : Option Value} {x3 : Int64} {w4 : Option Value} {s0 : Int64} {Z : aj_Z} {I : aj_I} {G : aj_G} {C : Nat × Nat} (h0 : ¬ s0 = x1 → Q (some (.int 0)) Z I G) (k0 : Z.2.1 o0 = some (.inl 9)) (h1 : s0 = x1 → T 0 0 147 [.ref o0, .int (Int64.toInt32 x1)] Z I G (fun r Z1 I1 G1 => J 53 [some (.ref o0), some (.long x1), w2, some (.long x3), w4] (r.toList ++ []) Z1 I1 G1 C)) : J 42 [some (.ref o0), some (.long x1), w2, some (.long x3), w4] [.long s0] Z I G C := by
  refine s_lload_n hJ d_144_42 rfl ?_
  refine s_lif_ne (tgt := 80) hJ d_144_43 d_144_44 rfl (fun c0 => ?_) (fun c0 => ?_)
  · skip
    refine s_iconst_0 hJ d_144_80 ?_
    exact s_iret hJ d_144_81 rfl rfl (h0 c0)
  · skip
    refine s_aload_n hJ d_144_47 rfl ?_
    refine s_lload_n hJ d_144_48 rfl ?_
    refine s_l2i hJ d_144_49 ?_
    exact s_V1 hJ lm_9_58 d_144_50 (Nat.le_of_ble_eq_true rfl) k0 (h1 c0)
set_option maxRecDepth 4000 in
theorem b_144_53 {mc ms : Nat} {X : Option (Nat × (Nat → Int32))} {T : aj_Tt} {Q : aj_Q} {J : aj_J} (hJ : aj_Cl 9 c_144 (some .boolean) false mc ms X T Q J) {o0 : Nat} {x1 : Int64} {w2 : Option Value} {x3 : Int64} {w4 : Option Value} {s0 : Int32} {Z : aj_Z} {I : aj_I} {G : aj_G} {C : Nat × Nat} (h0 : s0 = 0 → Q (some (.int 0)) Z I G) (k0 : Z.2.1 o0 = some (.inl 9)) (h1 : ¬ s0 = 0 → T 0 0 148 [.ref o0, .int (Int64.toInt32 x3)] Z I G (fun r Z1 I1 G1 => J 62 [some (.ref o0), some (.long x1), w2, some (.long x3), w4] (r.toList ++ []) Z1 I1 G1 C)) : J 53 [some (.ref o0), some (.long x1), w2, some (.long x3), w4] [.int s0] Z I G C := by
  refine s_if_eq (tgt := 80) hJ d_144_53 rfl (fun c0 => ?_) (fun c0 => ?_)
  · skip
    refine s_iconst_0 hJ d_144_80 ?_
    exact s_iret hJ d_144_81 rfl rfl (h0 c0)
  · skip
    refine s_aload_n hJ d_144_56 rfl ?_
    refine s_lload_n hJ d_144_57 rfl ?_
    refine s_l2i hJ d_144_58 ?_
    exact s_V1 hJ lm_9_62 d_144_59 (Nat.le_of_ble_eq_true rfl) k0 (h1 c0)
set_option maxRecDepth 4000 in
theorem b_144_62 {mc ms : Nat} {X : Option (Nat × (Nat → Int32))} {T : aj_Tt} {Q : aj_Q} {J : aj_J} (hJ : aj_Cl 9 c_144 (some .boolean) false mc ms X T Q J) {o0 : Nat} {x1 : Int64} {w2 : Option Value} {x3 : Int64} {w4 : Option Value} {s0 : Int32} {Z : aj_Z} {I : aj_I} {G : aj_G} {C : Nat × Nat} (h0 : s0 = 0 → Q (some (.int 0)) Z I G) (k0 : Z.2.1 o0 = some (.inl 9)) (h1 : ¬ s0 = 0 → T 0 0 149 [.ref o0, .int (Int64.toInt32 x3)] Z I G (fun r Z1 I1 G1 => J 71 [some (.ref o0), some (.long x1), w2, some (.long x3), w4] (r.toList ++ []) Z1 I1 G1 C)) : J 62 [some (.ref o0), some (.long x1), w2, some (.long x3), w4] [.int s0] Z I G C := by
  refine s_if_eq (tgt := 80) hJ d_144_62 rfl (fun c0 => ?_) (fun c0 => ?_)
  · skip
    refine s_iconst_0 hJ d_144_80 ?_
    exact s_iret hJ d_144_81 rfl rfl (h0 c0)
  · skip
    refine s_aload_n hJ d_144_65 rfl ?_
    refine s_lload_n hJ d_144_66 rfl ?_
    refine s_l2i hJ d_144_67 ?_
    exact s_V1 hJ lm_9_65 d_144_68 (Nat.le_of_ble_eq_true rfl) k0 (h1 c0)
set_option maxRecDepth 4000 in
theorem b_144_71 {mc ms : Nat} {X : Option (Nat × (Nat → Int32))} {T : aj_Tt} {Q : aj_Q} {J : aj_J} (hJ : aj_Cl 9 c_144 (some .boolean) false mc ms X T Q J) {w0 : Option Value} {x1 : Int64} {w2 : Option Value} {w3 : Option Value} {w4 : Option Value} {s0 : Int64} {Z : aj_Z} {I : aj_I} {G : aj_G} {C : Nat × Nat} (h0 : ¬ s0 = x1 → Q (some (.int 0)) Z I G) (h1 : s0 = x1 → Q (some (.int 1)) Z I G) : J 71 [w0, some (.long x1), w2, w3, w4] [.long s0] Z I G C := by
  refine s_lload_n hJ d_144_71 rfl ?_
  refine s_lif_ne (tgt := 80) hJ d_144_72 d_144_73 rfl (fun c0 => ?_) (fun c0 => ?_)
  · skip
    refine s_iconst_0 hJ d_144_80 ?_
    exact s_iret hJ d_144_81 rfl rfl (h0 c0)
  · skip
    refine s_iconst_1 hJ d_144_76 ?_
    refine s_goto (tgt := 81) hJ d_144_77 rfl ?_
    exact s_iret hJ d_144_81 rfl rfl (h1 c0)
-- ReelOfBoxes$TrackBoxes.samplesOfStts()J : method 145
theorem d_145_0 : decode c_145 0 = .ok (.aload_n 0, 1) := by decide +kernel
theorem d_145_1 : decode c_145 1 = .ok (.getfield 11, 3) := by decide +kernel
theorem d_145_4 : decode c_145 4 = .ok (.iconst (0), 1) := by decide +kernel
theorem d_145_5 : decode c_145 5 = .ok (.aaload, 1) := by decide +kernel
theorem d_145_6 : decode c_145 6 = .ok (.astore_n 1, 1) := by decide +kernel
theorem d_145_7 : decode c_145 7 = .ok (.aload_n 1, 1) := by decide +kernel
theorem d_145_8 : decode c_145 8 = .ok (.invokevirtual 69, 3) := by decide +kernel
theorem d_145_11 : decode c_145 11 = .ok (.istore_n 2, 1) := by decide +kernel
theorem d_145_12 : decode c_145 12 = .ok (.lconst 0, 1) := by decide +kernel
theorem d_145_13 : decode c_145 13 = .ok (.lstore_n 3, 1) := by decide +kernel
theorem d_145_14 : decode c_145 14 = .ok (.iconst (0), 1) := by decide +kernel
theorem d_145_15 : decode c_145 15 = .ok (.istore 5, 2) := by decide +kernel
theorem d_145_17 : decode c_145 17 = .ok (.iload 5, 2) := by decide +kernel
theorem d_145_19 : decode c_145 19 = .ok (.iload_n 2, 1) := by decide +kernel
theorem d_145_20 : decode c_145 20 = .ok (.if_icmp .ge (19), 3) := by decide +kernel
theorem d_145_23 : decode c_145 23 = .ok (.lload_n 3, 1) := by decide +kernel
theorem d_145_24 : decode c_145 24 = .ok (.aload_n 1, 1) := by decide +kernel
theorem d_145_25 : decode c_145 25 = .ok (.iload 5, 2) := by decide +kernel
theorem d_145_27 : decode c_145 27 = .ok (.iconst (0), 1) := by decide +kernel
theorem d_145_28 : decode c_145 28 = .ok (.invokevirtual 73, 3) := by decide +kernel
theorem d_145_31 : decode c_145 31 = .ok (.ladd, 1) := by decide +kernel
theorem d_145_32 : decode c_145 32 = .ok (.lstore_n 3, 1) := by decide +kernel
theorem d_145_33 : decode c_145 33 = .ok (.iinc 5 (1), 3) := by decide +kernel
theorem d_145_36 : decode c_145 36 = .ok (.goto (-19), 3) := by decide +kernel
theorem d_145_39 : decode c_145 39 = .ok (.lload_n 3, 1) := by decide +kernel
theorem d_145_40 : decode c_145 40 = .ok (.lreturn, 1) := by decide +kernel
set_option maxRecDepth 4000 in
theorem b_145_0 {mc ms : Nat} {X : Option (Nat × (Nat → Int32))} {T : aj_Tt} {Q : aj_Q} {J : aj_J} (hJ : aj_Cl 9 c_145 (some .long) false mc ms X T Q J) {o0 : Nat} {q0 : Nat} {nk1 : Nat} {q1 : Nat} {Z : aj_Z} {I : aj_I} {G : aj_G} {C : Nat × Nat} (k0 : Z.2.1 o0 = some (.inl 9)) (r0 : Z.2.2 o0 0 = .ref q0) (k1 : Z.2.1 q0 = some (.inr (6, nk1))) (h0 : vp_in 0 nk1) (h1 : Z.2.2 q0 (Int32.toNatClampNeg 0) = .ref q1) (k3 : Z.2.1 q1 = some (.inl 7)) (h2 : T 0 0 122 [.ref q1] Z I G (fun r Z1 I1 G1 => J 11 [some (.ref o0), some (.ref q1), none, none, none, none] (r.toList ++ []) Z1 I1 G1 C)) : J 0 [some (.ref o0), none, none, none, none, none] [] Z I G C := by
  refine s_aload_n hJ d_145_0 rfl ?_
  refine s_getr hJ lf_9_11 rfl d_145_1 k0 r0 ?_
  refine s_iconst_0 hJ d_145_4 ?_
  refine s_aald hJ d_145_5 k1 tc_6 (h0) (h1) ?_
  refine s_astore_n hJ d_145_6 (Nat.le_of_ble_eq_true rfl) ?_
  refine s_aload_n hJ d_145_7 rfl ?_
  exact s_V0 hJ lm_9_69 d_145_8 (Nat.le_of_ble_eq_true rfl) k3 (h2)
set_option maxRecDepth 4000 in
theorem b_145_11 {mc ms : Nat} {X : Option (Nat × (Nat → Int32))} {T : aj_Tt} {Q : aj_Q} {J : aj_J} (hJ : aj_Cl 9 c_145 (some .long) false mc ms X T Q J) {w0 : Option Value} {o1 : Nat} {w2 : Option Value} {w3 : Option Value} {w4 : Option Value} {w5 : Option Value} {s0 : Int32} {Z : aj_Z} {I : aj_I} {G : aj_G} {C : Nat × Nat} (h0 : J 17 [w0, some (.ref o1), some (.int s0), some (.long 0), none, some (.int 0)] [] Z I G C) : J 11 [w0, some (.ref o1), w2, w3, w4, w5] [.int s0] Z I G C := by
  refine s_istore_n hJ d_145_11 (Nat.le_of_ble_eq_true rfl) ?_
  refine s_lconst_0 hJ d_145_12 ?_
  refine s_lstore_n hJ d_145_13 (Nat.le_of_ble_eq_true rfl) ?_
  refine s_iconst_0 hJ d_145_14 ?_
  refine s_istore hJ d_145_15 (Nat.le_of_ble_eq_true rfl) ?_
  exact h0
set_option maxRecDepth 4000 in
theorem b_145_17 {mc ms : Nat} {X : Option (Nat × (Nat → Int32))} {T : aj_Tt} {Q : aj_Q} {J : aj_J} (hJ : aj_Cl 9 c_145 (some .long) false mc ms X T Q J) {w0 : Option Value} {o1 : Nat} {x2 : Int32} {x3 : Int64} {w4 : Option Value} {x5 : Int32} {Z : aj_Z} {I : aj_I} {G : aj_G} {C : Nat × Nat} (h0 : x2 ≤ x5 → Q (some (.long x3)) Z I G) (k0 : Z.2.1 o1 = some (.inl 7)) (h1 : ¬ x2 ≤ x5 → T 0 0 123 [.ref o1, .int x5, .int 0] Z I G (fun r Z1 I1 G1 => J 31 [w0, some (.ref o1), some (.int x2), some (.long x3), w4, some (.int x5)] (r.toList ++ [.long x3]) Z1 I1 G1 C)) : J 17 [w0, some (.ref o1), some (.int x2), some (.long x3), w4, some (.int x5)] [] Z I G C := by
  refine s_iload hJ d_145_17 rfl ?_
  refine s_iload_n hJ d_145_19 rfl ?_
  refine s_icmp_ge (tgt := 39) hJ d_145_20 rfl (fun c0 => ?_) (fun c0 => ?_)
  · skip
    refine s_lload_n hJ d_145_39 rfl ?_
    exact s_lret hJ d_145_40 rfl (h0 c0)
  · skip
    refine s_lload_n hJ d_145_23 rfl ?_
    refine s_aload_n hJ d_145_24 rfl ?_
    refine s_iload hJ d_145_25 rfl ?_
    refine s_iconst_0 hJ d_145_27 ?_
    exact s_V2 hJ lm_9_73 d_145_28 (Nat.le_of_ble_eq_true rfl) k0 (h1 c0)
set_option maxRecDepth 4000 in
theorem b_145_31 {mc ms : Nat} {X : Option (Nat × (Nat → Int32))} {T : aj_Tt} {Q : aj_Q} {J : aj_J} (hJ : aj_Cl 9 c_145 (some .long) false mc ms X T Q J) {w0 : Option Value} {o1 : Nat} {x2 : Int32} {w3 : Option Value} {w4 : Option Value} {x5 : Int32} {s0 : Int64} {s1 : Int64} {Z : aj_Z} {I : aj_I} {G : aj_G} {C : Nat × Nat} (h0 : J 17 [w0, some (.ref o1), some (.int x2), some (.long (s1 + s0)), none, some (.int (x5 + 1))] [] Z I G C) : J 31 [w0, some (.ref o1), some (.int x2), w3, w4, some (.int x5)] [.long s0, .long s1] Z I G C := by
  refine s_ladd hJ d_145_31 ?_
  refine s_lstore_n hJ d_145_32 (Nat.le_of_ble_eq_true rfl) ?_
  refine s_iinc (v := 1) hJ d_145_33 rfl (by decide) ?_
  refine s_goto (tgt := 17) hJ d_145_36 rfl ?_
  exact h0
-- ReelOfBoxes$TrackBoxes.sizeToldOf(I)J : method 146
theorem d_146_0 : decode c_146 0 = .ok (.aload_n 0, 1) := by decide +kernel
theorem d_146_1 : decode c_146 1 = .ok (.getfield 11, 3) := by decide +kernel
theorem d_146_4 : decode c_146 4 = .ok (.iconst (2), 1) := by decide +kernel
theorem d_146_5 : decode c_146 5 = .ok (.aaload, 1) := by decide +kernel
theorem d_146_6 : decode c_146 6 = .ok (.invokevirtual 77, 3) := by decide +kernel
theorem d_146_9 : decode c_146 9 = .ok (.lstore_n 2, 1) := by decide +kernel
theorem d_146_10 : decode c_146 10 = .ok (.lload_n 2, 1) := by decide +kernel
theorem d_146_11 : decode c_146 11 = .ok (.lconst 0, 1) := by decide +kernel
theorem d_146_12 : decode c_146 12 = .ok (.lcmp, 1) := by decide +kernel
theorem d_146_13 : decode c_146 13 = .ok (.ifCond .eq (7), 3) := by decide +kernel
theorem d_146_16 : decode c_146 16 = .ok (.lload_n 2, 1) := by decide +kernel
theorem d_146_17 : decode c_146 17 = .ok (.goto (14), 3) := by decide +kernel
theorem d_146_20 : decode c_146 20 = .ok (.aload_n 0, 1) := by decide +kernel
theorem d_146_21 : decode c_146 21 = .ok (.getfield 11, 3) := by decide +kernel
theorem d_146_24 : decode c_146 24 = .ok (.iconst (2), 1) := by decide +kernel
theorem d_146_25 : decode c_146 25 = .ok (.aaload, 1) := by decide +kernel
theorem d_146_26 : decode c_146 26 = .ok (.iload_n 1, 1) := by decide +kernel
theorem d_146_27 : decode c_146 27 = .ok (.iconst (0), 1) := by decide +kernel
theorem d_146_28 : decode c_146 28 = .ok (.invokevirtual 73, 3) := by decide +kernel
theorem d_146_31 : decode c_146 31 = .ok (.lreturn, 1) := by decide +kernel
set_option maxRecDepth 4000 in
theorem b_146_0 {mc ms : Nat} {X : Option (Nat × (Nat → Int32))} {T : aj_Tt} {Q : aj_Q} {J : aj_J} (hJ : aj_Cl 9 c_146 (some .long) false mc ms X T Q J) {o0 : Nat} {x1 : Int32} {q0 : Nat} {nk1 : Nat} {q1 : Nat} {Z : aj_Z} {I : aj_I} {G : aj_G} {C : Nat × Nat} (k0 : Z.2.1 o0 = some (.inl 9)) (r0 : Z.2.2 o0 0 = .ref q0) (k1 : Z.2.1 q0 = some (.inr (6, nk1))) (h0 : vp_in 2 nk1) (h1 : Z.2.2 q0 (Int32.toNatClampNeg 2) = .ref q1) (k3 : Z.2.1 q1 = some (.inl 7)) (h2 : T 0 0 121 [.ref q1] Z I G (fun r Z1 I1 G1 => J 9 [some (.ref o0), some (.int x1), none, none] (r.toList ++ []) Z1 I1 G1 C)) : J 0 [some (.ref o0), some (.int x1), none, none] [] Z I G C := by
  refine s_aload_n hJ d_146_0 rfl ?_
  refine s_getr hJ lf_9_11 rfl d_146_1 k0 r0 ?_
  refine s_iconst_2 hJ d_146_4 ?_
  refine s_aald hJ d_146_5 k1 tc_6 (h0) (h1) ?_
  exact s_V0 hJ lm_9_77 d_146_6 (Nat.le_of_ble_eq_true rfl) k3 (h2)
set_option maxRecDepth 4000 in
theorem b_146_9 {mc ms : Nat} {X : Option (Nat × (Nat → Int32))} {T : aj_Tt} {Q : aj_Q} {J : aj_J} (hJ : aj_Cl 9 c_146 (some .long) false mc ms X T Q J) {o0 : Nat} {x1 : Int32} {w2 : Option Value} {w3 : Option Value} {s0 : Int64} {q0 : Nat} {nk1 : Nat} {q1 : Nat} {Z : aj_Z} {I : aj_I} {G : aj_G} {C : Nat × Nat} (k0 : Z.2.1 o0 = some (.inl 9)) (r0 : Z.2.2 o0 0 = .ref q0) (k1 : Z.2.1 q0 = some (.inr (6, nk1))) (h0 : s0 = 0 → vp_in 2 nk1) (h1 : s0 = 0 → Z.2.2 q0 (Int32.toNatClampNeg 2) = .ref q1) (k3 : Z.2.1 q1 = some (.inl 7)) (h2 : s0 = 0 → T 0 0 123 [.ref q1, .int x1, .int 0] Z I G (fun r Z1 I1 G1 => J 31 [some (.ref o0), some (.int x1), some (.long s0), none] (r.toList ++ []) Z1 I1 G1 C)) (h3 : ¬ s0 = 0 → J 31 [some (.ref o0), some (.int x1), some (.long s0), none] [.long s0] Z I G C) : J 9 [some (.ref o0), some (.int x1), w2, w3] [.long s0] Z I G C := by
  refine s_lstore_n hJ d_146_9 (Nat.le_of_ble_eq_true rfl) ?_
  refine s_lload_n hJ d_146_10 rfl ?_
  refine s_lconst_0 hJ d_146_11 ?_
  refine s_lif_eq (tgt := 20) hJ d_146_12 d_146_13 rfl (fun c0 => ?_) (fun c0 => ?_)
  · skip
    refine s_aload_n hJ d_146_20 rfl ?_
    refine s_getr hJ lf_9_11 rfl d_146_21 k0 r0 ?_
    refine s_iconst_2 hJ d_146_24 ?_
    refine s_aald hJ d_146_25 k1 tc_6 (h0 c0) (h1 c0) ?_
    refine s_iload_n hJ d_146_26 rfl ?_
    refine s_iconst_0 hJ d_146_27 ?_
    exact s_V2 hJ lm_9_73 d_146_28 (Nat.le_of_ble_eq_true rfl) k3 (h2 c0)
  · skip
    refine s_lload_n hJ d_146_16 rfl ?_
    refine s_goto (tgt := 31) hJ d_146_17 rfl ?_
    exact h3 c0
set_option maxRecDepth 4000 in
theorem b_146_31 {mc ms : Nat} {X : Option (Nat × (Nat → Int32))} {T : aj_Tt} {Q : aj_Q} {J : aj_J} (hJ : aj_Cl 9 c_146 (some .long) false mc ms X T Q J) {w0 : Option Value} {w1 : Option Value} {w2 : Option Value} {w3 : Option Value} {s0 : Int64} {Z : aj_Z} {I : aj_I} {G : aj_G} {C : Nat × Nat} (h0 : Q (some (.long s0)) Z I G) : J 31 [w0, w1, w2, w3] [.long s0] Z I G C := by
  exact s_lret hJ d_146_31 rfl (h0)
-- ReelOfBoxes$TrackBoxes.sizesAreSmall(I)Z : method 147
theorem d_147_0 : decode c_147 0 = .ok (.iconst (0), 1) := by decide +kernel
theorem d_147_1 : decode c_147 1 = .ok (.istore_n 2, 1) := by decide +kernel
theorem d_147_2 : decode c_147 2 = .ok (.iload_n 2, 1) := by decide +kernel
theorem d_147_3 : decode c_147 3 = .ok (.iload_n 1, 1) := by decide +kernel
theorem d_147_4 : decode c_147 4 = .ok (.if_icmp .ge (23), 3) := by decide +kernel
theorem d_147_7 : decode c_147 7 = .ok (.aload_n 0, 1) := by decide +kernel
theorem d_147_8 : decode c_147 8 = .ok (.iload_n 2, 1) := by decide +kernel
theorem d_147_9 : decode c_147 9 = .ok (.invokevirtual 80, 3) := by decide +kernel
theorem d_147_12 : decode c_147 12 = .ok (.ldc2_w 83, 3) := by decide +kernel
theorem d_147_15 : decode c_147 15 = .ok (.lcmp, 1) := by decide +kernel
theorem d_147_16 : decode c_147 16 = .ok (.ifCond .le (5), 3) := by decide +kernel
theorem d_147_19 : decode c_147 19 = .ok (.iconst (0), 1) := by decide +kernel
theorem d_147_20 : decode c_147 20 = .ok (.ireturn, 1) := by decide +kernel
theorem d_147_21 : decode c_147 21 = .ok (.iinc 2 (1), 3) := by decide +kernel
theorem d_147_24 : decode c_147 24 = .ok (.goto (-22), 3) := by decide +kernel
theorem d_147_27 : decode c_147 27 = .ok (.iconst (1), 1) := by decide +kernel
theorem d_147_28 : decode c_147 28 = .ok (.ireturn, 1) := by decide +kernel
set_option maxRecDepth 4000 in
theorem b_147_0 {mc ms : Nat} {X : Option (Nat × (Nat → Int32))} {T : aj_Tt} {Q : aj_Q} {J : aj_J} (hJ : aj_Cl 9 c_147 (some .boolean) false mc ms X T Q J) {o0 : Nat} {x1 : Int32} {Z : aj_Z} {I : aj_I} {G : aj_G} {C : Nat × Nat} (h0 : J 2 [some (.ref o0), some (.int x1), some (.int 0)] [] Z I G C) : J 0 [some (.ref o0), some (.int x1), none] [] Z I G C := by
  refine s_iconst_0 hJ d_147_0 ?_
  refine s_istore_n hJ d_147_1 (Nat.le_of_ble_eq_true rfl) ?_
  exact h0
set_option maxRecDepth 4000 in
theorem b_147_2 {mc ms : Nat} {X : Option (Nat × (Nat → Int32))} {T : aj_Tt} {Q : aj_Q} {J : aj_J} (hJ : aj_Cl 9 c_147 (some .boolean) false mc ms X T Q J) {o0 : Nat} {x1 : Int32} {x2 : Int32} {Z : aj_Z} {I : aj_I} {G : aj_G} {C : Nat × Nat} (h0 : x1 ≤ x2 → Q (some (.int 1)) Z I G) (k0 : Z.2.1 o0 = some (.inl 9)) (h1 : ¬ x1 ≤ x2 → T 0 0 146 [.ref o0, .int x2] Z I G (fun r Z1 I1 G1 => J 12 [some (.ref o0), some (.int x1), some (.int x2)] (r.toList ++ []) Z1 I1 G1 C)) : J 2 [some (.ref o0), some (.int x1), some (.int x2)] [] Z I G C := by
  refine s_iload_n hJ d_147_2 rfl ?_
  refine s_iload_n hJ d_147_3 rfl ?_
  refine s_icmp_ge (tgt := 27) hJ d_147_4 rfl (fun c0 => ?_) (fun c0 => ?_)
  · skip
    refine s_iconst_1 hJ d_147_27 ?_
    exact s_iret hJ d_147_28 rfl rfl (h0 c0)
  · skip
    refine s_aload_n hJ d_147_7 rfl ?_
    refine s_iload_n hJ d_147_8 rfl ?_
    exact s_V1 hJ lm_9_80 d_147_9 (Nat.le_of_ble_eq_true rfl) k0 (h1 c0)
set_option maxRecDepth 4000 in
theorem b_147_12 {mc ms : Nat} {X : Option (Nat × (Nat → Int32))} {T : aj_Tt} {Q : aj_Q} {J : aj_J} (hJ : aj_Cl 9 c_147 (some .boolean) false mc ms X T Q J) {o0 : Nat} {x1 : Int32} {x2 : Int32} {s0 : Int64} {Z : aj_Z} {I : aj_I} {G : aj_G} {C : Nat × Nat} (h0 : s0 ≤ 8 → J 2 [some (.ref o0), some (.int x1), some (.int (x2 + 1))] [] Z I G C) (h1 : ¬ s0 ≤ 8 → Q (some (.int 0)) Z I G) : J 12 [some (.ref o0), some (.int x1), some (.int x2)] [.long s0] Z I G C := by
  refine s_ldc2 hJ ll_9_83 d_147_12 ?_
  refine s_lif_le (tgt := 21) hJ d_147_15 d_147_16 rfl (fun c0 => ?_) (fun c0 => ?_)
  · skip
    refine s_iinc (v := 1) hJ d_147_21 rfl (by decide) ?_
    refine s_goto (tgt := 2) hJ d_147_24 rfl ?_
    exact h0 c0
  · skip
    refine s_iconst_0 hJ d_147_19 ?_
    exact s_iret hJ d_147_20 rfl rfl (h1 c0)
-- ReelOfBoxes$TrackBoxes.entriesMeetChunks(I)Z : method 148
theorem d_148_0 : decode c_148 0 = .ok (.aload_n 0, 1) := by decide +kernel
theorem d_148_1 : decode c_148 1 = .ok (.getfield 11, 3) := by decide +kernel
theorem d_148_4 : decode c_148 4 = .ok (.iconst (1), 1) := by decide +kernel
theorem d_148_5 : decode c_148 5 = .ok (.aaload, 1) := by decide +kernel
theorem d_148_6 : decode c_148 6 = .ok (.invokevirtual 69, 3) := by decide +kernel
theorem d_148_9 : decode c_148 9 = .ok (.istore_n 2, 1) := by decide +kernel
theorem d_148_10 : decode c_148 10 = .ok (.iload_n 2, 1) := by decide +kernel
theorem d_148_11 : decode c_148 11 = .ok (.ifCond .ne (13), 3) := by decide +kernel
theorem d_148_14 : decode c_148 14 = .ok (.iload_n 1, 1) := by decide +kernel
theorem d_148_15 : decode c_148 15 = .ok (.ifCond .ne (7), 3) := by decide +kernel
theorem d_148_18 : decode c_148 18 = .ok (.iconst (1), 1) := by decide +kernel
theorem d_148_19 : decode c_148 19 = .ok (.goto (4), 3) := by decide +kernel
theorem d_148_22 : decode c_148 22 = .ok (.iconst (0), 1) := by decide +kernel
theorem d_148_23 : decode c_148 23 = .ok (.ireturn, 1) := by decide +kernel
theorem d_148_24 : decode c_148 24 = .ok (.aload_n 0, 1) := by decide +kernel
theorem d_148_25 : decode c_148 25 = .ok (.getfield 11, 3) := by decide +kernel
theorem d_148_28 : decode c_148 28 = .ok (.iconst (1), 1) := by decide +kernel
theorem d_148_29 : decode c_148 29 = .ok (.aaload, 1) := by decide +kernel
theorem d_148_30 : decode c_148 30 = .ok (.iload_n 2, 1) := by decide +kernel
theorem d_148_31 : decode c_148 31 = .ok (.iconst (1), 1) := by decide +kernel
theorem d_148_32 : decode c_148 32 = .ok (.isub, 1) := by decide +kernel
theorem d_148_33 : decode c_148 33 = .ok (.iconst (0), 1) := by decide +kernel
theorem d_148_34 : decode c_148 34 = .ok (.invokevirtual 73, 3) := by decide +kernel
theorem d_148_37 : decode c_148 37 = .ok (.iload_n 1, 1) := by decide +kernel
theorem d_148_38 : decode c_148 38 = .ok (.i2l, 1) := by decide +kernel
theorem d_148_39 : decode c_148 39 = .ok (.lcmp, 1) := by decide +kernel
theorem d_148_40 : decode c_148 40 = .ok (.ifCond .gt (7), 3) := by decide +kernel
theorem d_148_43 : decode c_148 43 = .ok (.iconst (1), 1) := by decide +kernel
theorem d_148_44 : decode c_148 44 = .ok (.goto (4), 3) := by decide +kernel
theorem d_148_47 : decode c_148 47 = .ok (.iconst (0), 1) := by decide +kernel
theorem d_148_48 : decode c_148 48 = .ok (.ireturn, 1) := by decide +kernel
set_option maxRecDepth 4000 in
theorem b_148_0 {mc ms : Nat} {X : Option (Nat × (Nat → Int32))} {T : aj_Tt} {Q : aj_Q} {J : aj_J} (hJ : aj_Cl 9 c_148 (some .boolean) false mc ms X T Q J) {o0 : Nat} {x1 : Int32} {q0 : Nat} {nk1 : Nat} {q1 : Nat} {Z : aj_Z} {I : aj_I} {G : aj_G} {C : Nat × Nat} (k0 : Z.2.1 o0 = some (.inl 9)) (r0 : Z.2.2 o0 0 = .ref q0) (k1 : Z.2.1 q0 = some (.inr (6, nk1))) (h0 : vp_in 1 nk1) (h1 : Z.2.2 q0 (Int32.toNatClampNeg 1) = .ref q1) (k3 : Z.2.1 q1 = some (.inl 7)) (h2 : T 0 0 122 [.ref q1] Z I G (fun r Z1 I1 G1 => J 9 [some (.ref o0), some (.int x1), none] (r.toList ++ []) Z1 I1 G1 C)) : J 0 [some (.ref o0), some (.int x1), none] [] Z I G C := by
  refine s_aload_n hJ d_148_0 rfl ?_
  refine s_getr hJ lf_9_11 rfl d_148_1 k0 r0 ?_
  refine s_iconst_1 hJ d_148_4 ?_
  refine s_aald hJ d_148_5 k1 tc_6 (h0) (h1) ?_
  exact s_V0 hJ lm_9_69 d_148_6 (Nat.le_of_ble_eq_true rfl) k3 (h2)
set_option maxRecDepth 4000 in
theorem b_148_9 {mc ms : Nat} {X : Option (Nat × (Nat → Int32))} {T : aj_Tt} {Q : aj_Q} {J : aj_J} (hJ : aj_Cl 9 c_148 (some .boolean) false mc ms X T Q J) {o0 : Nat} {x1 : Int32} {w2 : Option Value} {s0 : Int32} {q0 : Nat} {nk1 : Nat} {q1 : Nat} {Z : aj_Z} {I : aj_I} {G : aj_G} {C : Nat × Nat} (k0 : Z.2.1 o0 = some (.inl 9)) (r0 : Z.2.2 o0 0 = .ref q0) (k1 : Z.2.1 q0 = some (.inr (6, nk1))) (h0 : ¬ s0 = 0 → vp_in 1 nk1) (h1 : ¬ s0 = 0 → Z.2.2 q0 (Int32.toNatClampNeg 1) = .ref q1) (k3 : Z.2.1 q1 = some (.inl 7)) (h2 : ¬ s0 = 0 → T 0 0 123 [.ref q1, .int (s0 - 1), .int 0] Z I G (fun r Z1 I1 G1 => J 37 [some (.ref o0), some (.int x1), some (.int s0)] (r.toList ++ []) Z1 I1 G1 C)) (h3 : s0 = 0 → ¬ x1 = 0 → Q (some (.int 0)) Z I G) (h4 : s0 = 0 → x1 = 0 → Q (some (.int 1)) Z I G) : J 9 [some (.ref o0), some (.int x1), w2] [.int s0] Z I G C := by
  refine s_istore_n hJ d_148_9 (Nat.le_of_ble_eq_true rfl) ?_
  refine s_iload_n hJ d_148_10 rfl ?_
  refine s_if_ne (tgt := 24) hJ d_148_11 rfl (fun c0 => ?_) (fun c0 => ?_)
  · skip
    refine s_aload_n hJ d_148_24 rfl ?_
    refine s_getr hJ lf_9_11 rfl d_148_25 k0 r0 ?_
    refine s_iconst_1 hJ d_148_28 ?_
    refine s_aald hJ d_148_29 k1 tc_6 (h0 c0) (h1 c0) ?_
    refine s_iload_n hJ d_148_30 rfl ?_
    refine s_iconst_1 hJ d_148_31 ?_
    refine s_isub hJ d_148_32 ?_
    refine s_iconst_0 hJ d_148_33 ?_
    exact s_V2 hJ lm_9_73 d_148_34 (Nat.le_of_ble_eq_true rfl) k3 (h2 c0)
  · skip
    refine s_iload_n hJ d_148_14 rfl ?_
    refine s_if_ne (tgt := 22) hJ d_148_15 rfl (fun c1 => ?_) (fun c1 => ?_)
    · skip
      refine s_iconst_0 hJ d_148_22 ?_
      exact s_iret hJ d_148_23 rfl rfl (h3 c0 c1)
    · skip
      refine s_iconst_1 hJ d_148_18 ?_
      refine s_goto (tgt := 23) hJ d_148_19 rfl ?_
      exact s_iret hJ d_148_23 rfl rfl (h4 c0 c1)
set_option maxRecDepth 4000 in
theorem b_148_37 {mc ms : Nat} {X : Option (Nat × (Nat → Int32))} {T : aj_Tt} {Q : aj_Q} {J : aj_J} (hJ : aj_Cl 9 c_148 (some .boolean) false mc ms X T Q J) {w0 : Option Value} {x1 : Int32} {w2 : Option Value} {s0 : Int64} {Z : aj_Z} {I : aj_I} {G : aj_G} {C : Nat × Nat} (h0 : (Int32.toInt64 x1) < s0 → Q (some (.int 0)) Z I G) (h1 : ¬ (Int32.toInt64 x1) < s0 → Q (some (.int 1)) Z I G) : J 37 [w0, some (.int x1), w2] [.long s0] Z I G C := by
  refine s_iload_n hJ d_148_37 rfl ?_
  refine s_i2l hJ d_148_38 ?_
  refine s_lif_gt (tgt := 47) hJ d_148_39 d_148_40 rfl (fun c0 => ?_) (fun c0 => ?_)
  · skip
    refine s_iconst_0 hJ d_148_47 ?_
    exact s_iret hJ d_148_48 rfl rfl (h0 c0)
  · skip
    refine s_iconst_1 hJ d_148_43 ?_
    refine s_goto (tgt := 48) hJ d_148_44 rfl ?_
    exact s_iret hJ d_148_48 rfl rfl (h1 c0)
-- ReelOfBoxes$TrackBoxes.samplesOfChunks(I)J : method 149
theorem d_149_0 : decode c_149 0 = .ok (.aload_n 0, 1) := by decide +kernel
theorem d_149_1 : decode c_149 1 = .ok (.getfield 11, 3) := by decide +kernel
theorem d_149_4 : decode c_149 4 = .ok (.iconst (1), 1) := by decide +kernel
theorem d_149_5 : decode c_149 5 = .ok (.aaload, 1) := by decide +kernel
theorem d_149_6 : decode c_149 6 = .ok (.astore_n 2, 1) := by decide +kernel
theorem d_149_7 : decode c_149 7 = .ok (.aload_n 2, 1) := by decide +kernel
theorem d_149_8 : decode c_149 8 = .ok (.invokevirtual 69, 3) := by decide +kernel
theorem d_149_11 : decode c_149 11 = .ok (.istore_n 3, 1) := by decide +kernel
theorem d_149_12 : decode c_149 12 = .ok (.lconst 0, 1) := by decide +kernel
theorem d_149_13 : decode c_149 13 = .ok (.lstore 4, 2) := by decide +kernel
theorem d_149_15 : decode c_149 15 = .ok (.iconst (0), 1) := by decide +kernel
theorem d_149_16 : decode c_149 16 = .ok (.istore 6, 2) := by decide +kernel
theorem d_149_18 : decode c_149 18 = .ok (.iload 6, 2) := by decide +kernel
theorem d_149_20 : decode c_149 20 = .ok (.iload_n 3, 1) := by decide +kernel
theorem d_149_21 : decode c_149 21 = .ok (.if_icmp .ge (58), 3) := by decide +kernel
theorem d_149_24 : decode c_149 24 = .ok (.iload 6, 2) := by decide +kernel
theorem d_149_26 : decode c_149 26 = .ok (.iconst (1), 1) := by decide +kernel
theorem d_149_27 : decode c_149 27 = .ok (.iadd, 1) := by decide +kernel
theorem d_149_28 : decode c_149 28 = .ok (.iload_n 3, 1) := by decide +kernel
theorem d_149_29 : decode c_149 29 = .ok (.if_icmp .ge (15), 3) := by decide +kernel
theorem d_149_32 : decode c_149 32 = .ok (.aload_n 2, 1) := by decide +kernel
theorem d_149_33 : decode c_149 33 = .ok (.iload 6, 2) := by decide +kernel
theorem d_149_35 : decode c_149 35 = .ok (.iconst (1), 1) := by decide +kernel
theorem d_149_36 : decode c_149 36 = .ok (.iadd, 1) := by decide +kernel
theorem d_149_37 : decode c_149 37 = .ok (.iconst (0), 1) := by decide +kernel
theorem d_149_38 : decode c_149 38 = .ok (.invokevirtual 73, 3) := by decide +kernel
theorem d_149_41 : decode c_149 41 = .ok (.goto (7), 3) := by decide +kernel
theorem d_149_44 : decode c_149 44 = .ok (.iload_n 1, 1) := by decide +kernel
theorem d_149_45 : decode c_149 45 = .ok (.iconst (1), 1) := by decide +kernel
theorem d_149_46 : decode c_149 46 = .ok (.iadd, 1) := by decide +kernel
theorem d_149_47 : decode c_149 47 = .ok (.i2l, 1) := by decide +kernel
theorem d_149_48 : decode c_149 48 = .ok (.lstore 7, 2) := by decide +kernel
theorem d_149_50 : decode c_149 50 = .ok (.lload 4, 2) := by decide +kernel
theorem d_149_52 : decode c_149 52 = .ok (.lload 7, 2) := by decide +kernel
theorem d_149_54 : decode c_149 54 = .ok (.aload_n 2, 1) := by decide +kernel
theorem d_149_55 : decode c_149 55 = .ok (.iload 6, 2) := by decide +kernel
theorem d_149_57 : decode c_149 57 = .ok (.iconst (0), 1) := by decide +kernel
theorem d_149_58 : decode c_149 58 = .ok (.invokevirtual 73, 3) := by decide +kernel
theorem d_149_61 : decode c_149 61 = .ok (.lsub, 1) := by decide +kernel
theorem d_149_62 : decode c_149 62 = .ok (.aload_n 2, 1) := by decide +kernel
theorem d_149_63 : decode c_149 63 = .ok (.iload 6, 2) := by decide +kernel
theorem d_149_65 : decode c_149 65 = .ok (.iconst (1), 1) := by decide +kernel
theorem d_149_66 : decode c_149 66 = .ok (.invokevirtual 73, 3) := by decide +kernel
theorem d_149_69 : decode c_149 69 = .ok (.lmul, 1) := by decide +kernel
theorem d_149_70 : decode c_149 70 = .ok (.ladd, 1) := by decide +kernel
theorem d_149_71 : decode c_149 71 = .ok (.lstore 4, 2) := by decide +kernel
theorem d_149_73 : decode c_149 73 = .ok (.iinc 6 (1), 3) := by decide +kernel
theorem d_149_76 : decode c_149 76 = .ok (.goto (-58), 3) := by decide +kernel
theorem d_149_79 : decode c_149 79 = .ok (.lload 4, 2) := by decide +kernel
theorem d_149_81 : decode c_149 81 = .ok (.lreturn, 1) := by decide +kernel
set_option maxRecDepth 4000 in
theorem b_149_0 {mc ms : Nat} {X : Option (Nat × (Nat → Int32))} {T : aj_Tt} {Q : aj_Q} {J : aj_J} (hJ : aj_Cl 9 c_149 (some .long) false mc ms X T Q J) {o0 : Nat} {x1 : Int32} {q0 : Nat} {nk1 : Nat} {q1 : Nat} {Z : aj_Z} {I : aj_I} {G : aj_G} {C : Nat × Nat} (k0 : Z.2.1 o0 = some (.inl 9)) (r0 : Z.2.2 o0 0 = .ref q0) (k1 : Z.2.1 q0 = some (.inr (6, nk1))) (h0 : vp_in 1 nk1) (h1 : Z.2.2 q0 (Int32.toNatClampNeg 1) = .ref q1) (k3 : Z.2.1 q1 = some (.inl 7)) (h2 : T 0 0 122 [.ref q1] Z I G (fun r Z1 I1 G1 => J 11 [some (.ref o0), some (.int x1), some (.ref q1), none, none, none, none, none, none] (r.toList ++ []) Z1 I1 G1 C)) : J 0 [some (.ref o0), some (.int x1), none, none, none, none, none, none, none] [] Z I G C := by
  refine s_aload_n hJ d_149_0 rfl ?_
  refine s_getr hJ lf_9_11 rfl d_149_1 k0 r0 ?_
  refine s_iconst_1 hJ d_149_4 ?_
  refine s_aald hJ d_149_5 k1 tc_6 (h0) (h1) ?_
  refine s_astore_n hJ d_149_6 (Nat.le_of_ble_eq_true rfl) ?_
  refine s_aload_n hJ d_149_7 rfl ?_
  exact s_V0 hJ lm_9_69 d_149_8 (Nat.le_of_ble_eq_true rfl) k3 (h2)
set_option maxRecDepth 4000 in
theorem b_149_11 {mc ms : Nat} {X : Option (Nat × (Nat → Int32))} {T : aj_Tt} {Q : aj_Q} {J : aj_J} (hJ : aj_Cl 9 c_149 (some .long) false mc ms X T Q J) {w0 : Option Value} {x1 : Int32} {o2 : Nat} {w3 : Option Value} {w4 : Option Value} {w5 : Option Value} {w6 : Option Value} {w7 : Option Value} {w8 : Option Value} {s0 : Int32} {Z : aj_Z} {I : aj_I} {G : aj_G} {C : Nat × Nat} (h0 : J 18 [w0, some (.int x1), some (.ref o2), some (.int s0), some (.long 0), none, some (.int 0), w7, w8] [] Z I G C) : J 11 [w0, some (.int x1), some (.ref o2), w3, w4, w5, w6, w7, w8] [.int s0] Z I G C := by
  refine s_istore_n hJ d_149_11 (Nat.le_of_ble_eq_true rfl) ?_
  refine s_lconst_0 hJ d_149_12 ?_
  refine s_lstore hJ d_149_13 (Nat.le_of_ble_eq_true rfl) ?_
  refine s_iconst_0 hJ d_149_15 ?_
  refine s_istore hJ d_149_16 (Nat.le_of_ble_eq_true rfl) ?_
  exact h0
set_option maxRecDepth 4000 in
theorem b_149_18 {mc ms : Nat} {X : Option (Nat × (Nat → Int32))} {T : aj_Tt} {Q : aj_Q} {J : aj_J} (hJ : aj_Cl 9 c_149 (some .long) false mc ms X T Q J) {w0 : Option Value} {x1 : Int32} {o2 : Nat} {x3 : Int32} {x4 : Int64} {w5 : Option Value} {x6 : Int32} {w7 : Option Value} {w8 : Option Value} {Z : aj_Z} {I : aj_I} {G : aj_G} {C : Nat × Nat} (h0 : x3 ≤ x6 → Q (some (.long x4)) Z I G) (h1 : ¬ x3 ≤ x6 → x3 ≤ (x6 + 1) → J 48 [w0, some (.int x1), some (.ref o2), some (.int x3), some (.long x4), w5, some (.int x6), w7, w8] [.long (Int32.toInt64 (x1 + 1))] Z I G C) (k0 : Z.2.1 o2 = some (.inl 7)) (h2 : ¬ x3 ≤ x6 → ¬ x3 ≤ (x6 + 1) → T 0 0 123 [.ref o2, .int (x6 + 1), .int 0] Z I G (fun r Z1 I1 G1 => J 41 [w0, some (.int x1), some (.ref o2), some (.int x3), some (.long x4), w5, some (.int x6), w7, w8] (r.toList ++ []) Z1 I1 G1 C)) : J 18 [w0, some (.int x1), some (.ref o2), some (.int x3), some (.long x4), w5, some (.int x6), w7, w8] [] Z I G C := by
  refine s_iload hJ d_149_18 rfl ?_
  refine s_iload_n hJ d_149_20 rfl ?_
  refine s_icmp_ge (tgt := 79) hJ d_149_21 rfl (fun c0 => ?_) (fun c0 => ?_)
  · skip
    refine s_lload hJ d_149_79 rfl ?_
    exact s_lret hJ d_149_81 rfl (h0 c0)
  · skip
    refine s_iload hJ d_149_24 rfl ?_
    refine s_iconst_1 hJ d_149_26 ?_
    refine s_iadd hJ d_149_27 ?_
    refine s_iload_n hJ d_149_28 rfl ?_
    refine s_icmp_ge (tgt := 44) hJ d_149_29 rfl (fun c1 => ?_) (fun c1 => ?_)
    · skip
      refine s_iload_n hJ d_149_44 rfl ?_
      refine s_iconst_1 hJ d_149_45 ?_
      refine s_iadd hJ d_149_46 ?_
      refine s_i2l hJ d_149_47 ?_
      exact h1 c0 c1
    · skip
      refine s_aload_n hJ d_149_32 rfl ?_
      refine s_iload hJ d_149_33 rfl ?_
      refine s_iconst_1 hJ d_149_35 ?_
      refine s_iadd hJ d_149_36 ?_
      refine s_iconst_0 hJ d_149_37 ?_
      exact s_V2 hJ lm_9_73 d_149_38 (Nat.le_of_ble_eq_true rfl) k0 (h2 c0 c1)
set_option maxRecDepth 4000 in
theorem b_149_41 {mc ms : Nat} {X : Option (Nat × (Nat → Int32))} {T : aj_Tt} {Q : aj_Q} {J : aj_J} (hJ : aj_Cl 9 c_149 (some .long) false mc ms X T Q J) {w0 : Option Value} {x1 : Int32} {o2 : Nat} {x3 : Int32} {x4 : Int64} {w5 : Option Value} {x6 : Int32} {w7 : Option Value} {w8 : Option Value} {s0 : Int64} {Z : aj_Z} {I : aj_I} {G : aj_G} {C : Nat × Nat} (h0 : J 48 [w0, some (.int x1), some (.ref o2), some (.int x3), some (.long x4), w5, some (.int x6), w7, w8] [.long s0] Z I G C) : J 41 [w0, some (.int x1), some (.ref o2), some (.int x3), some (.long x4), w5, some (.int x6), w7, w8] [.long s0] Z I G C := by
  refine s_goto (tgt := 48) hJ d_149_41 rfl ?_
  exact h0
set_option maxRecDepth 4000 in
theorem b_149_48 {mc ms : Nat} {X : Option (Nat × (Nat → Int32))} {T : aj_Tt} {Q : aj_Q} {J : aj_J} (hJ : aj_Cl 9 c_149 (some .long) false mc ms X T Q J) {w0 : Option Value} {x1 : Int32} {o2 : Nat} {x3 : Int32} {x4 : Int64} {w5 : Option Value} {x6 : Int32} {w7 : Option Value} {w8 : Option Value} {s0 : Int64} {Z : aj_Z} {I : aj_I} {G : aj_G} {C : Nat × Nat} (k0 : Z.2.1 o2 = some (.inl 7)) (h0 : T 0 0 123 [.ref o2, .int x6, .int 0] Z I G (fun r Z1 I1 G1 => J 61 [w0, some (.int x1), some (.ref o2), some (.int x3), some (.long x4), w5, some (.int x6), some (.long s0), none] (r.toList ++ [.long s0, .long x4]) Z1 I1 G1 C)) : J 48 [w0, some (.int x1), some (.ref o2), some (.int x3), some (.long x4), w5, some (.int x6), w7, w8] [.long s0] Z I G C := by
  refine s_lstore hJ d_149_48 (Nat.le_of_ble_eq_true rfl) ?_
  refine s_lload hJ d_149_50 rfl ?_
  refine s_lload hJ d_149_52 rfl ?_
  refine s_aload_n hJ d_149_54 rfl ?_
  refine s_iload hJ d_149_55 rfl ?_
  refine s_iconst_0 hJ d_149_57 ?_
  exact s_V2 hJ lm_9_73 d_149_58 (Nat.le_of_ble_eq_true rfl) k0 (h0)
set_option maxRecDepth 4000 in
theorem b_149_61 {mc ms : Nat} {X : Option (Nat × (Nat → Int32))} {T : aj_Tt} {Q : aj_Q} {J : aj_J} (hJ : aj_Cl 9 c_149 (some .long) false mc ms X T Q J) {w0 : Option Value} {x1 : Int32} {o2 : Nat} {x3 : Int32} {w4 : Option Value} {w5 : Option Value} {x6 : Int32} {w7 : Option Value} {w8 : Option Value} {s0 : Int64} {s1 : Int64} {s2 : Int64} {Z : aj_Z} {I : aj_I} {G : aj_G} {C : Nat × Nat} (k0 : Z.2.1 o2 = some (.inl 7)) (h0 : T 0 0 123 [.ref o2, .int x6, .int 1] Z I G (fun r Z1 I1 G1 => J 69 [w0, some (.int x1), some (.ref o2), some (.int x3), w4, w5, some (.int x6), w7, w8] (r.toList ++ [.long (s1 - s0), .long s2]) Z1 I1 G1 C)) : J 61 [w0, some (.int x1), some (.ref o2), some (.int x3), w4, w5, some (.int x6), w7, w8] [.long s0, .long s1, .long s2] Z I G C := by
  refine s_lsub hJ d_149_61 ?_
  refine s_aload_n hJ d_149_62 rfl ?_
  refine s_iload hJ d_149_63 rfl ?_
  refine s_iconst_1 hJ d_149_65 ?_
  exact s_V2 hJ lm_9_73 d_149_66 (Nat.le_of_ble_eq_true rfl) k0 (h0)
set_option maxRecDepth 4000 in
theorem b_149_69 {mc ms : Nat} {X : Option (Nat × (Nat → Int32))} {T : aj_Tt} {Q : aj_Q} {J : aj_J} (hJ : aj_Cl 9 c_149 (some .long) false mc ms X T Q J) {w0 : Option Value} {x1 : Int32} {o2 : Nat} {x3 : Int32} {w4 : Option Value} {w5 : Option Value} {x6 : Int32} {w7 : Option Value} {w8 : Option Value} {s0 : Int64} {s1 : Int64} {s2 : Int64} {Z : aj_Z} {I : aj_I} {G : aj_G} {C : Nat × Nat} (h0 : J 18 [w0, some (.int x1), some (.ref o2), some (.int x3), some (.long (s2 + (s1 * s0))), none, some (.int (x6 + 1)), w7, w8] [] Z I G C) : J 69 [w0, some (.int x1), some (.ref o2), some (.int x3), w4, w5, some (.int x6), w7, w8] [.long s0, .long s1, .long s2] Z I G C := by
  refine s_lmul hJ d_149_69 ?_
  refine s_ladd hJ d_149_70 ?_
  refine s_lstore hJ d_149_71 (Nat.le_of_ble_eq_true rfl) ?_
  refine s_iinc (v := 1) hJ d_149_73 rfl (by decide) ?_
  refine s_goto (tgt := 18) hJ d_149_76 rfl ?_
  exact h0
-- ReelOfBoxes$TrackBoxes.unfold()V : method 150
theorem d_150_0 : decode c_150 0 = .ok (.aload_n 0, 1) := by decide +kernel
theorem d_150_1 : decode c_150 1 = .ok (.aload_n 0, 1) := by decide +kernel
theorem d_150_2 : decode c_150 2 = .ok (.getfield 11, 3) := by decide +kernel
theorem d_150_5 : decode c_150 5 = .ok (.iconst (2), 1) := by decide +kernel
theorem d_150_6 : decode c_150 6 = .ok (.aaload, 1) := by decide +kernel
theorem d_150_7 : decode c_150 7 = .ok (.invokevirtual 49, 3) := by decide +kernel
theorem d_150_10 : decode c_150 10 = .ok (.ldc2_w 53, 3) := by decide +kernel
theorem d_150_13 : decode c_150 13 = .ok (.invokestatic 85, 3) := by decide +kernel
theorem d_150_16 : decode c_150 16 = .ok (.l2i, 1) := by decide +kernel
theorem d_150_17 : decode c_150 17 = .ok (.putfield 28, 3) := by decide +kernel
theorem d_150_20 : decode c_150 20 = .ok (.iconst (0), 1) := by decide +kernel
theorem d_150_21 : decode c_150 21 = .ok (.istore_n 1, 1) := by decide +kernel
theorem d_150_22 : decode c_150 22 = .ok (.iload_n 1, 1) := by decide +kernel
theorem d_150_23 : decode c_150 23 = .ok (.aload_n 0, 1) := by decide +kernel
theorem d_150_24 : decode c_150 24 = .ok (.getfield 28, 3) := by decide +kernel
theorem d_150_27 : decode c_150 27 = .ok (.if_icmp .ge (21), 3) := by decide +kernel
theorem d_150_30 : decode c_150 30 = .ok (.aload_n 0, 1) := by decide +kernel
theorem d_150_31 : decode c_150 31 = .ok (.getfield 21, 3) := by decide +kernel
theorem d_150_34 : decode c_150 34 = .ok (.iload_n 1, 1) := by decide +kernel
theorem d_150_35 : decode c_150 35 = .ok (.aload_n 0, 1) := by decide +kernel
theorem d_150_36 : decode c_150 36 = .ok (.iload_n 1, 1) := by decide +kernel
theorem d_150_37 : decode c_150 37 = .ok (.invokevirtual 80, 3) := by decide +kernel
theorem d_150_40 : decode c_150 40 = .ok (.l2i, 1) := by decide +kernel
theorem d_150_41 : decode c_150 41 = .ok (.iastore, 1) := by decide +kernel
theorem d_150_42 : decode c_150 42 = .ok (.iinc 1 (1), 3) := by decide +kernel
theorem d_150_45 : decode c_150 45 = .ok (.goto (-23), 3) := by decide +kernel
theorem d_150_48 : decode c_150 48 = .ok (.aload_n 0, 1) := by decide +kernel
theorem d_150_49 : decode c_150 49 = .ok (.invokevirtual 91, 3) := by decide +kernel
theorem d_150_52 : decode c_150 52 = .ok (.aload_n 0, 1) := by decide +kernel
theorem d_150_53 : decode c_150 53 = .ok (.invokevirtual 94, 3) := by decide +kernel
theorem d_150_56 : decode c_150 56 = .ok (.return_, 1) := by decide +kernel
set_option maxRecDepth 4000 in
theorem b_150_0 {mc ms : Nat} {X : Option (Nat × (Nat → Int32))} {T : aj_Tt} {Q : aj_Q} {J : aj_J} (hJ : aj_Cl 9 c_150 (none) false mc ms X T Q J) {o0 : Nat} {q0 : Nat} {nk1 : Nat} {q1 : Nat} {Z : aj_Z} {I : aj_I} {G : aj_G} {C : Nat × Nat} (k0 : Z.2.1 o0 = some (.inl 9)) (r0 : Z.2.2 o0 0 = .ref q0) (k1 : Z.2.1 q0 = some (.inr (6, nk1))) (h0 : vp_in 2 nk1) (h1 : Z.2.2 q0 (Int32.toNatClampNeg 2) = .ref q1) (k3 : Z.2.1 q1 = some (.inl 7)) (h2 : T 0 0 120 [.ref q1] Z I G (fun r Z1 I1 G1 => J 10 [some (.ref o0), none] (r.toList ++ [.ref o0]) Z1 I1 G1 C)) : J 0 [some (.ref o0), none] [] Z I G C := by
  refine s_aload_n hJ d_150_0 rfl ?_
  refine s_aload_n hJ d_150_1 rfl ?_
  refine s_getr hJ lf_9_11 rfl d_150_2 k0 r0 ?_
  refine s_iconst_2 hJ d_150_5 ?_
  refine s_aald hJ d_150_6 k1 tc_6 (h0) (h1) ?_
  exact s_V0 hJ lm_9_49 d_150_7 (Nat.le_of_ble_eq_true rfl) k3 (h2)
set_option maxRecDepth 4000 in
theorem b_150_10 {mc ms : Nat} {X : Option (Nat × (Nat → Int32))} {T : aj_Tt} {Q : aj_Q} {J : aj_J} (hJ : aj_Cl 9 c_150 (none) false mc ms X T Q J) {o0 : Nat} {w1 : Option Value} {s0 : Int64} {s1 : Nat} {Z : aj_Z} {I : aj_I} {G : aj_G} {C : Nat × Nat} (k0 : Z.2.1 s1 = some (.inl 9)) (h0 : J 22 [some (.ref o0), some (.int 0)] [] Z (aj_u2 I s1 4 (Int64.toInt32 (if 16 < s0 then 16 else s0))) G C) : J 10 [some (.ref o0), w1] [.long s0, .ref s1] Z I G C := by
  refine s_ldc2 hJ ll_9_53 d_150_10 ?_
  refine s_mminl hJ lx_9_85 d_150_13 (Nat.le_of_ble_eq_true rfl) ?_
  refine s_l2i hJ d_150_16 ?_
  refine s_puti hJ lf_9_28 rfl d_150_17 k0 ?_
  refine s_iconst_0 hJ d_150_20 ?_
  refine s_istore_n hJ d_150_21 (Nat.le_of_ble_eq_true rfl) ?_
  exact h0
set_option maxRecDepth 4000 in
theorem b_150_22 {mc ms : Nat} {X : Option (Nat × (Nat → Int32))} {T : aj_Tt} {Q : aj_Q} {J : aj_J} (hJ : aj_Cl 9 c_150 (none) false mc ms X T Q J) {o0 : Nat} {x1 : Int32} {q0 : Nat} {Z : aj_Z} {I : aj_I} {G : aj_G} {C : Nat × Nat} (k0 : Z.2.1 o0 = some (.inl 9)) (h0 : (I o0 4) ≤ x1 → T 0 0 151 [.ref o0] Z I G (fun r Z1 I1 G1 => J 52 [some (.ref o0), some (.int x1)] (r.toList ++ []) Z1 I1 G1 C)) (r0 : Z.2.2 o0 2 = .ref q0) (h1 : ¬ (I o0 4) ≤ x1 → T 0 0 146 [.ref o0, .int x1] Z I G (fun r Z1 I1 G1 => J 40 [some (.ref o0), some (.int x1)] (r.toList ++ [.int x1, .ref q0]) Z1 I1 G1 C)) : J 22 [some (.ref o0), some (.int x1)] [] Z I G C := by
  refine s_iload_n hJ d_150_22 rfl ?_
  refine s_aload_n hJ d_150_23 rfl ?_
  refine s_geti hJ lf_9_28 rfl d_150_24 k0 ?_
  refine s_icmp_ge (tgt := 48) hJ d_150_27 rfl (fun c0 => ?_) (fun c0 => ?_)
  · skip
    refine s_aload_n hJ d_150_48 rfl ?_
    exact s_V0 hJ lm_9_91 d_150_49 (Nat.le_of_ble_eq_true rfl) k0 (h0 c0)
  · skip
    refine s_aload_n hJ d_150_30 rfl ?_
    refine s_getr hJ lf_9_21 rfl d_150_31 k0 r0 ?_
    refine s_iload_n hJ d_150_34 rfl ?_
    refine s_aload_n hJ d_150_35 rfl ?_
    refine s_iload_n hJ d_150_36 rfl ?_
    exact s_V1 hJ lm_9_80 d_150_37 (Nat.le_of_ble_eq_true rfl) k0 (h1 c0)
set_option maxRecDepth 4000 in
theorem b_150_40 {mc ms : Nat} {X : Option (Nat × (Nat → Int32))} {T : aj_Tt} {Q : aj_Q} {J : aj_J} (hJ : aj_Cl 9 c_150 (none) false mc ms X T Q J) {o0 : Nat} {x1 : Int32} {s0 : Int64} {s1 : Int32} {s2 : Nat} {nk0 : Nat} {Z : aj_Z} {I : aj_I} {G : aj_G} {C : Nat × Nat} (k0 : Z.2.1 s2 = some (.inr (0, nk0))) (h0 : vp_in s1 nk0) (h1 : J 22 [some (.ref o0), some (.int (x1 + 1))] [] Z (aj_u2 I s2 (Int32.toNatClampNeg s1) (Int64.toInt32 s0)) G C) : J 40 [some (.ref o0), some (.int x1)] [.long s0, .int s1, .ref s2] Z I G C := by
  refine s_l2i hJ d_150_40 ?_
  refine s_iast hJ d_150_41 k0 (h0) ?_
  refine s_iinc (v := 1) hJ d_150_42 rfl (by decide) ?_
  refine s_goto (tgt := 22) hJ d_150_45 rfl ?_
  exact h1
set_option maxRecDepth 4000 in
theorem b_150_52 {mc ms : Nat} {X : Option (Nat × (Nat → Int32))} {T : aj_Tt} {Q : aj_Q} {J : aj_J} (hJ : aj_Cl 9 c_150 (none) false mc ms X T Q J) {o0 : Nat} {w1 : Option Value} {Z : aj_Z} {I : aj_I} {G : aj_G} {C : Nat × Nat} (k0 : Z.2.1 o0 = some (.inl 9)) (h0 : T 0 0 152 [.ref o0] Z I G (fun r Z1 I1 G1 => J 56 [some (.ref o0), w1] (r.toList ++ []) Z1 I1 G1 C)) : J 52 [some (.ref o0), w1] [] Z I G C := by
  refine s_aload_n hJ d_150_52 rfl ?_
  exact s_V0 hJ lm_9_94 d_150_53 (Nat.le_of_ble_eq_true rfl) k0 (h0)
set_option maxRecDepth 4000 in
theorem b_150_56 {mc ms : Nat} {X : Option (Nat × (Nat → Int32))} {T : aj_Tt} {Q : aj_Q} {J : aj_J} (hJ : aj_Cl 9 c_150 (none) false mc ms X T Q J) {w0 : Option Value} {w1 : Option Value} {Z : aj_Z} {I : aj_I} {G : aj_G} {C : Nat × Nat} (h0 : Q none Z I G) : J 56 [w0, w1] [] Z I G C := by
  exact s_vret hJ d_150_56 rfl (h0)
