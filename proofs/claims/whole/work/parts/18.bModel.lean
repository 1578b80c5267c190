/-! decode rows and block rows, by a program -/
-- ReelOfBoxesModel.entry(IIII)J : method 55
theorem d_55_0 : decode c_55 0 = .ok (.iload_n 2, 1) := by decide +kernel
theorem d_55_1 : decode c_55 1 = .ok (.iconst (3), 1) := by decide +kernel
theorem d_55_2 : decode c_55 2 = .ok (.if_icmp .ne (17), 3) := by decide +kernel
theorem d_55_5 : decode c_55 5 = .ok (.aload_n 0, 1) := by decide +kernel
theorem d_55_6 : decode c_55 6 = .ok (.getfield 48, 3) := by decide +kernel
theorem d_55_9 : decode c_55 9 = .ok (.iload_n 1, 1) := by decide +kernel
theorem d_55_10 : decode c_55 10 = .ok (.baload, 1) := by decide +kernel
theorem d_55_11 : decode c_55 11 = .ok (.ifCond .eq (8), 3) := by decide +kernel
theorem d_55_14 : decode c_55 14 = .ok (.bipush (8), 2) := by decide +kernel
theorem d_55_16 : decode c_55 16 = .ok (.goto (4), 3) := by decide +kernel
theorem d_55_19 : decode c_55 19 = .ok (.iconst (4), 1) := by decide +kernel
theorem d_55_20 : decode c_55 20 = .ok (.istore 5, 2) := by decide +kernel
theorem d_55_22 : decode c_55 22 = .ok (.aload_n 0, 1) := by decide +kernel
theorem d_55_23 : decode c_55 23 = .ok (.aload_n 0, 1) := by decide +kernel
theorem d_55_24 : decode c_55 24 = .ok (.getfield 42, 3) := by decide +kernel
theorem d_55_27 : decode c_55 27 = .ok (.iconst (4), 1) := by decide +kernel
theorem d_55_28 : decode c_55 28 = .ok (.iload_n 1, 1) := by decide +kernel
theorem d_55_29 : decode c_55 29 = .ok (.imul, 1) := by decide +kernel
theorem d_55_30 : decode c_55 30 = .ok (.iload_n 2, 1) := by decide +kernel
theorem d_55_31 : decode c_55 31 = .ok (.iadd, 1) := by decide +kernel
theorem d_55_32 : decode c_55 32 = .ok (.iaload, 1) := by decide +kernel
theorem d_55_33 : decode c_55 33 = .ok (.aload_n 0, 1) := by decide +kernel
theorem d_55_34 : decode c_55 34 = .ok (.iload_n 2, 1) := by decide +kernel
theorem d_55_35 : decode c_55 35 = .ok (.invokevirtual 193, 3) := by decide +kernel
theorem d_55_38 : decode c_55 38 = .ok (.iadd, 1) := by decide +kernel
theorem d_55_39 : decode c_55 39 = .ok (.iload_n 3, 1) := by decide +kernel
theorem d_55_40 : decode c_55 40 = .ok (.aload_n 0, 1) := by decide +kernel
theorem d_55_41 : decode c_55 41 = .ok (.iload_n 1, 1) := by decide +kernel
theorem d_55_42 : decode c_55 42 = .ok (.iload_n 2, 1) := by decide +kernel
theorem d_55_43 : decode c_55 43 = .ok (.invokevirtual 202, 3) := by decide +kernel
theorem d_55_46 : decode c_55 46 = .ok (.imul, 1) := by decide +kernel
theorem d_55_47 : decode c_55 47 = .ok (.iadd, 1) := by decide +kernel
theorem d_55_48 : decode c_55 48 = .ok (.iconst (4), 1) := by decide +kernel
theorem d_55_49 : decode c_55 49 = .ok (.iload 4, 2) := by decide +kernel
theorem d_55_51 : decode c_55 51 = .ok (.imul, 1) := by decide +kernel
theorem d_55_52 : decode c_55 52 = .ok (.iadd, 1) := by decide +kernel
theorem d_55_53 : decode c_55 53 = .ok (.iload 5, 2) := by decide +kernel
theorem d_55_55 : decode c_55 55 = .ok (.invokevirtual 139, 3) := by decide +kernel
theorem d_55_58 : decode c_55 58 = .ok (.lreturn, 1) := by decide +kernel
set_option maxRecDepth 4000 in
theorem b_55_0 {mc ms : Nat} {X : Option (Nat × (Nat → Int32))} {T : aj_Tt} {Q : aj_Q} {J : aj_J} (hJ : aj_Cl 1 c_55 (some .long) false mc ms X T Q J) {o0 : Nat} {x1 : Int32} {x2 : Int32} {x3 : Int32} {x4 : Int32} {q0 : Nat} {nk1 : Nat} {Z : aj_Z} {I : aj_I} {G : aj_G} {C : Nat × Nat} (h0 : ¬ x2 = 3 → J 19 [some (.ref o0), some (.int x1), some (.int x2), some (.int x3), some (.int x4), none] [] Z I G C) (k0 : Z.2.1 o0 = some (.inl 1)) (r0 : Z.2.2 o0 20 = .ref q0) (k1 : Z.2.1 q0 = some (.inr (3, nk1))) (h1 : x2 = 3 → vp_in x1 nk1) (h2 : x2 = 3 → (I q0 (Int32.toNatClampNeg x1)) = 0 → J 19 [some (.ref o0), some (.int x1), some (.int x2), some (.int x3), some (.int x4), none] [] Z I G C) (h3 : x2 = 3 → ¬ (I q0 (Int32.toNatClampNeg x1)) = 0 → J 20 [some (.ref o0), some (.int x1), some (.int x2), some (.int x3), some (.int x4), none] [.int 8] Z I G C) : J 0 [some (.ref o0), some (.int x1), some (.int x2), some (.int x3), some (.int x4), none] [] Z I G C := by
  refine s_iload_n hJ d_55_0 rfl ?_
  refine s_iconst_3 hJ d_55_1 ?_
  refine s_icmp_ne (tgt := 19) hJ d_55_2 rfl (fun c0 => ?_) (fun c0 => ?_)
  · skip
    exact h0 c0
  · skip
    refine s_aload_n hJ d_55_5 rfl ?_
    refine s_getr hJ lf_1_48 rfl d_55_6 k0 r0 ?_
    refine s_iload_n hJ d_55_9 rfl ?_
    refine s_zald hJ d_55_10 k1 (h1 c0) ?_
    refine s_if_eq (tgt := 19) hJ d_55_11 rfl (fun c1 => ?_) (fun c1 => ?_)
    · skip
      exact h2 c0 c1
    · skip
      refine s_bipush (v := 8) hJ d_55_14 (by decide) ?_
      refine s_goto (tgt := 20) hJ d_55_16 rfl ?_
      exact h3 c0 c1
set_option maxRecDepth 4000 in
theorem b_55_19 {mc ms : Nat} {X : Option (Nat × (Nat → Int32))} {T : aj_Tt} {Q : aj_Q} {J : aj_J} (hJ : aj_Cl 1 c_55 (some .long) false mc ms X T Q J) {o0 : Nat} {x1 : Int32} {x2 : Int32} {x3 : Int32} {x4 : Int32} {w5 : Option Value} {Z : aj_Z} {I : aj_I} {G : aj_G} {C : Nat × Nat} (h0 : J 20 [some (.ref o0), some (.int x1), some (.int x2), some (.int x3), some (.int x4), w5] [.int 4] Z I G C) : J 19 [some (.ref o0), some (.int x1), some (.int x2), some (.int x3), some (.int x4), w5] [] Z I G C := by
  refine s_iconst_4 hJ d_55_19 ?_
  exact h0
set_option maxRecDepth 4000 in
theorem b_55_20 {mc ms : Nat} {X : Option (Nat × (Nat → Int32))} {T : aj_Tt} {Q : aj_Q} {J : aj_J} (hJ : aj_Cl 1 c_55 (some .long) false mc ms X T Q J) {o0 : Nat} {x1 : Int32} {x2 : Int32} {x3 : Int32} {x4 : Int32} {w5 : Option Value} {s0 : Int32} {q0 : Nat} {nk1 : Nat} {Z : aj_Z} {I : aj_I} {G : aj_G} {C : Nat × Nat} (k0 : Z.2.1 o0 = some (.inl 1)) (r0 : Z.2.2 o0 18 = .ref q0) (k1 : Z.2.1 q0 = some (.inr (0, nk1))) (h0 : vp_in ((4 * x1) + x2) nk1) (h1 : T 0 0 51 [.ref o0, .int x2] Z I G (fun r Z1 I1 G1 => J 38 [some (.ref o0), some (.int x1), some (.int x2), some (.int x3), some (.int x4), some (.int s0)] (r.toList ++ [.int (I q0 (Int32.toNatClampNeg ((4 * x1) + x2))), .ref o0]) Z1 I1 G1 C)) : J 20 [some (.ref o0), some (.int x1), some (.int x2), some (.int x3), some (.int x4), w5] [.int s0] Z I G C := by
  refine s_istore hJ d_55_20 (Nat.le_of_ble_eq_true rfl) ?_
  refine s_aload_n hJ d_55_22 rfl ?_
  refine s_aload_n hJ d_55_23 rfl ?_
  refine s_getr hJ lf_1_42 rfl d_55_24 k0 r0 ?_
  refine s_iconst_4 hJ d_55_27 ?_
  refine s_iload_n hJ d_55_28 rfl ?_
  refine s_imul hJ d_55_29 ?_
  refine s_iload_n hJ d_55_30 rfl ?_
  refine s_iadd hJ d_55_31 ?_
  refine s_iald hJ d_55_32 k1 (h0) ?_
  refine s_aload_n hJ d_55_33 rfl ?_
  refine s_iload_n hJ d_55_34 rfl ?_
  exact s_V1 hJ lm_1_193 d_55_35 (Nat.le_of_ble_eq_true rfl) k0 (h1)
set_option maxRecDepth 4000 in
theorem b_55_38 {mc ms : Nat} {X : Option (Nat × (Nat → Int32))} {T : aj_Tt} {Q : aj_Q} {J : aj_J} (hJ : aj_Cl 1 c_55 (some .long) false mc ms X T Q J) {o0 : Nat} {x1 : Int32} {x2 : Int32} {x3 : Int32} {x4 : Int32} {x5 : Int32} {s0 : Int32} {s1 : Int32} {s2 : Nat} {Z : aj_Z} {I : aj_I} {G : aj_G} {C : Nat × Nat} (k0 : Z.2.1 o0 = some (.inl 1)) (h0 : T 0 0 50 [.ref o0, .int x1, .int x2] Z I G (fun r Z1 I1 G1 => J 46 [some (.ref o0), some (.int x1), some (.int x2), some (.int x3), some (.int x4), some (.int x5)] (r.toList ++ [.int x3, .int (s1 + s0), .ref s2]) Z1 I1 G1 C)) : J 38 [some (.ref o0), some (.int x1), some (.int x2), some (.int x3), some (.int x4), some (.int x5)] [.int s0, .int s1, .ref s2] Z I G C := by
  refine s_iadd hJ d_55_38 ?_
  refine s_iload_n hJ d_55_39 rfl ?_
  refine s_aload_n hJ d_55_40 rfl ?_
  refine s_iload_n hJ d_55_41 rfl ?_
  refine s_iload_n hJ d_55_42 rfl ?_
  exact s_V2 hJ lm_1_202 d_55_43 (Nat.le_of_ble_eq_true rfl) k0 (h0)
set_option maxRecDepth 4000 in
theorem b_55_46 {mc ms : Nat} {X : Option (Nat × (Nat → Int32))} {T : aj_Tt} {Q : aj_Q} {J : aj_J} (hJ : aj_Cl 1 c_55 (some .long) false mc ms X T Q J) {w0 : Option Value} {w1 : Option Value} {w2 : Option Value} {w3 : Option Value} {x4 : Int32} {x5 : Int32} {s0 : Int32} {s1 : Int32} {s2 : Int32} {s3 : Nat} {Z : aj_Z} {I : aj_I} {G : aj_G} {C : Nat × Nat} (k0 : Z.2.1 s3 = some (.inl 1)) (h0 : T 0 0 41 [.ref s3, .int ((s2 + (s1 * s0)) + (4 * x4)), .int x5] Z I G (fun r Z1 I1 G1 => J 58 [w0, w1, w2, w3, some (.int x4), some (.int x5)] (r.toList ++ []) Z1 I1 G1 C)) : J 46 [w0, w1, w2, w3, some (.int x4), some (.int x5)] [.int s0, .int s1, .int s2, .ref s3] Z I G C := by
  refine s_imul hJ d_55_46 ?_
  refine s_iadd hJ d_55_47 ?_
  refine s_iconst_4 hJ d_55_48 ?_
  refine s_iload hJ d_55_49 rfl ?_
  refine s_imul hJ d_55_51 ?_
  refine s_iadd hJ d_55_52 ?_
  refine s_iload hJ d_55_53 rfl ?_
  exact s_V2 hJ lm_1_139 d_55_55 (Nat.le_of_ble_eq_true rfl) k0 (h0)
set_option maxRecDepth 4000 in
theorem b_55_58 {mc ms : Nat} {X : Option (Nat × (Nat → Int32))} {T : aj_Tt} {Q : aj_Q} {J : aj_J} (hJ : aj_Cl 1 c_55 (some .long) false mc ms X T Q J) {w0 : Option Value} {w1 : Option Value} {w2 : Option Value} {w3 : Option Value} {w4 : Option Value} {w5 : Option Value} {s0 : Int64} {Z : aj_Z} {I : aj_I} {G : aj_G} {C : Nat × Nat} (h0 : Q (some (.long s0)) Z I G) : J 58 [w0, w1, w2, w3, w4, w5] [.long s0] Z I G C := by
  exact s_lret hJ d_55_58 rfl (h0)
-- ReelOfBoxesModel.isRight(J)Z : method 56
theorem d_56_0 : decode c_56 0 = .ok (.lload_n 0, 1) := by decide +kernel
theorem d_56_1 : decode c_56 1 = .ok (.lconst 0, 1) := by decide +kernel
theorem d_56_2 : decode c_56 2 = .ok (.lcmp, 1) := by decide +kernel
theorem d_56_3 : decode c_56 3 = .ok (.ifCond .lt (15), 3) := by decide +kernel
theorem d_56_6 : decode c_56 6 = .ok (.lload_n 0, 1) := by decide +kernel
theorem d_56_7 : decode c_56 7 = .ok (.ldc2_w 205, 3) := by decide +kernel
theorem d_56_10 : decode c_56 10 = .ok (.lcmp, 1) := by decide +kernel
theorem d_56_11 : decode c_56 11 = .ok (.ifCond .gt (7), 3) := by decide +kernel
theorem d_56_14 : decode c_56 14 = .ok (.iconst (1), 1) := by decide +kernel
theorem d_56_15 : decode c_56 15 = .ok (.goto (4), 3) := by decide +kernel
theorem d_56_18 : decode c_56 18 = .ok (.iconst (0), 1) := by decide +kernel
theorem d_56_19 : decode c_56 19 = .ok (.ireturn, 1) := by decide +kernel
set_option maxRecDepth 4000 in
theorem b_56_0 {mc ms : Nat} {X : Option (Nat × (Nat → Int32))} {T : aj_Tt} {Q : aj_Q} {J : aj_J} (hJ : aj_Cl 1 c_56 (some .boolean) false mc ms X T Q J) {x0 : Int64} {Z : aj_Z} {I : aj_I} {G : aj_G} {C : Nat × Nat} (h0 : x0 < 0 → Q (some (.int 0)) Z I G) (h1 : ¬ x0 < 0 → 2147483647 < x0 → Q (some (.int 0)) Z I G) (h2 : ¬ x0 < 0 → ¬ 2147483647 < x0 → Q (some (.int 1)) Z I G) : J 0 [some (.long x0), none] [] Z I G C := by
  refine s_lload_n hJ d_56_0 rfl ?_
  refine s_lconst_0 hJ d_56_1 ?_
  refine s_lif_lt (tgt := 18) hJ d_56_2 d_56_3 rfl (fun c0 => ?_) (fun c0 => ?_)
  · skip
    refine s_iconst_0 hJ d_56_18 ?_
    exact s_iret hJ d_56_19 rfl rfl (h0 c0)
  · skip
    refine s_lload_n hJ d_56_6 rfl ?_
    refine s_ldc2 hJ ll_1_205 d_56_7 ?_
    refine s_lif_gt (tgt := 18) hJ d_56_10 d_56_11 rfl (fun c1 => ?_) (fun c1 => ?_)
    · skip
      refine s_iconst_0 hJ d_56_18 ?_
      exact s_iret hJ d_56_19 rfl rfl (h1 c0 c1)
    · skip
      refine s_iconst_1 hJ d_56_14 ?_
      refine s_goto (tgt := 19) hJ d_56_15 rfl ?_
      exact s_iret hJ d_56_19 rfl rfl (h2 c0 c1)
-- ReelOfBoxesModel.isEntryRight(III)Z : method 57
theorem d_57_0 : decode c_57 0 = .ok (.aload_n 0, 1) := by decide +kernel
theorem d_57_1 : decode c_57 1 = .ok (.iload_n 1, 1) := by decide +kernel
theorem d_57_2 : decode c_57 2 = .ok (.iload_n 2, 1) := by decide +kernel
theorem d_57_3 : decode c_57 3 = .ok (.iload_n 3, 1) := by decide +kernel
theorem d_57_4 : decode c_57 4 = .ok (.iconst (0), 1) := by decide +kernel
theorem d_57_5 : decode c_57 5 = .ok (.invokevirtual 207, 3) := by decide +kernel
theorem d_57_8 : decode c_57 8 = .ok (.lstore 4, 2) := by decide +kernel
theorem d_57_10 : decode c_57 10 = .ok (.iload_n 2, 1) := by decide +kernel
theorem d_57_11 : decode c_57 11 = .ok (.ifCond .ne (38), 3) := by decide +kernel
theorem d_57_14 : decode c_57 14 = .ok (.lload 4, 2) := by decide +kernel
theorem d_57_16 : decode c_57 16 = .ok (.invokestatic 211, 3) := by decide +kernel
theorem d_57_19 : decode c_57 19 = .ok (.ifCond .eq (28), 3) := by decide +kernel
theorem d_57_22 : decode c_57 22 = .ok (.lload 4, 2) := by decide +kernel
theorem d_57_24 : decode c_57 24 = .ok (.lconst 0, 1) := by decide +kernel
theorem d_57_25 : decode c_57 25 = .ok (.lcmp, 1) := by decide +kernel
theorem d_57_26 : decode c_57 26 = .ok (.ifCond .le (21), 3) := by decide +kernel
theorem d_57_29 : decode c_57 29 = .ok (.aload_n 0, 1) := by decide +kernel
theorem d_57_30 : decode c_57 30 = .ok (.iload_n 1, 1) := by decide +kernel
theorem d_57_31 : decode c_57 31 = .ok (.iload_n 2, 1) := by decide +kernel
theorem d_57_32 : decode c_57 32 = .ok (.iload_n 3, 1) := by decide +kernel
theorem d_57_33 : decode c_57 33 = .ok (.iconst (1), 1) := by decide +kernel
theorem d_57_34 : decode c_57 34 = .ok (.invokevirtual 207, 3) := by decide +kernel
theorem d_57_37 : decode c_57 37 = .ok (.invokestatic 211, 3) := by decide +kernel
theorem d_57_40 : decode c_57 40 = .ok (.ifCond .eq (7), 3) := by decide +kernel
theorem d_57_43 : decode c_57 43 = .ok (.iconst (1), 1) := by decide +kernel
theorem d_57_44 : decode c_57 44 = .ok (.goto (4), 3) := by decide +kernel
theorem d_57_47 : decode c_57 47 = .ok (.iconst (0), 1) := by decide +kernel
theorem d_57_48 : decode c_57 48 = .ok (.ireturn, 1) := by decide +kernel
theorem d_57_49 : decode c_57 49 = .ok (.iload_n 2, 1) := by decide +kernel
theorem d_57_50 : decode c_57 50 = .ok (.iconst (1), 1) := by decide +kernel
theorem d_57_51 : decode c_57 51 = .ok (.if_icmp .ne (102), 3) := by decide +kernel
theorem d_57_54 : decode c_57 54 = .ok (.iload_n 3, 1) := by decide +kernel
theorem d_57_55 : decode c_57 55 = .ok (.ifCond .ne (18), 3) := by decide +kernel
theorem d_57_58 : decode c_57 58 = .ok (.lload 4, 2) := by decide +kernel
theorem d_57_60 : decode c_57 60 = .ok (.lconst 1, 1) := by decide +kernel
theorem d_57_61 : decode c_57 61 = .ok (.lcmp, 1) := by decide +kernel
theorem d_57_62 : decode c_57 62 = .ok (.ifCond .ne (7), 3) := by decide +kernel
theorem d_57_65 : decode c_57 65 = .ok (.iconst (1), 1) := by decide +kernel
theorem d_57_66 : decode c_57 66 = .ok (.goto (28), 3) := by decide +kernel
theorem d_57_69 : decode c_57 69 = .ok (.iconst (0), 1) := by decide +kernel
theorem d_57_70 : decode c_57 70 = .ok (.goto (24), 3) := by decide +kernel
theorem d_57_73 : decode c_57 73 = .ok (.lload 4, 2) := by decide +kernel
theorem d_57_75 : decode c_57 75 = .ok (.aload_n 0, 1) := by decide +kernel
theorem d_57_76 : decode c_57 76 = .ok (.iload_n 1, 1) := by decide +kernel
theorem d_57_77 : decode c_57 77 = .ok (.iload_n 2, 1) := by decide +kernel
theorem d_57_78 : decode c_57 78 = .ok (.iload_n 3, 1) := by decide +kernel
theorem d_57_79 : decode c_57 79 = .ok (.iconst (1), 1) := by decide +kernel
theorem d_57_80 : decode c_57 80 = .ok (.isub, 1) := by decide +kernel
theorem d_57_81 : decode c_57 81 = .ok (.iconst (0), 1) := by decide +kernel
theorem d_57_82 : decode c_57 82 = .ok (.invokevirtual 207, 3) := by decide +kernel
theorem d_57_85 : decode c_57 85 = .ok (.lcmp, 1) := by decide +kernel
theorem d_57_86 : decode c_57 86 = .ok (.ifCond .le (7), 3) := by decide +kernel
theorem d_57_89 : decode c_57 89 = .ok (.iconst (1), 1) := by decide +kernel
theorem d_57_90 : decode c_57 90 = .ok (.goto (4), 3) := by decide +kernel
theorem d_57_93 : decode c_57 93 = .ok (.iconst (0), 1) := by decide +kernel
theorem d_57_94 : decode c_57 94 = .ok (.istore 6, 2) := by decide +kernel
theorem d_57_96 : decode c_57 96 = .ok (.aload_n 0, 1) := by decide +kernel
theorem d_57_97 : decode c_57 97 = .ok (.iload_n 1, 1) := by decide +kernel
theorem d_57_98 : decode c_57 98 = .ok (.iload_n 2, 1) := by decide +kernel
theorem d_57_99 : decode c_57 99 = .ok (.iload_n 3, 1) := by decide +kernel
theorem d_57_100 : decode c_57 100 = .ok (.iconst (1), 1) := by decide +kernel
theorem d_57_101 : decode c_57 101 = .ok (.invokevirtual 207, 3) := by decide +kernel
theorem d_57_104 : decode c_57 104 = .ok (.lstore 7, 2) := by decide +kernel
theorem d_57_106 : decode c_57 106 = .ok (.lload 4, 2) := by decide +kernel
theorem d_57_108 : decode c_57 108 = .ok (.invokestatic 211, 3) := by decide +kernel
theorem d_57_111 : decode c_57 111 = .ok (.ifCond .eq (40), 3) := by decide +kernel
theorem d_57_114 : decode c_57 114 = .ok (.iload 6, 2) := by decide +kernel
theorem d_57_116 : decode c_57 116 = .ok (.ifCond .eq (35), 3) := by decide +kernel
theorem d_57_119 : decode c_57 119 = .ok (.lload 7, 2) := by decide +kernel
theorem d_57_121 : decode c_57 121 = .ok (.invokestatic 211, 3) := by decide +kernel
theorem d_57_124 : decode c_57 124 = .ok (.ifCond .eq (27), 3) := by decide +kernel
theorem d_57_127 : decode c_57 127 = .ok (.lload 7, 2) := by decide +kernel
theorem d_57_129 : decode c_57 129 = .ok (.lconst 0, 1) := by decide +kernel
theorem d_57_130 : decode c_57 130 = .ok (.lcmp, 1) := by decide +kernel
theorem d_57_131 : decode c_57 131 = .ok (.ifCond .le (20), 3) := by decide +kernel
theorem d_57_134 : decode c_57 134 = .ok (.aload_n 0, 1) := by decide +kernel
theorem d_57_135 : decode c_57 135 = .ok (.iload_n 1, 1) := by decide +kernel
theorem d_57_136 : decode c_57 136 = .ok (.iload_n 2, 1) := by decide +kernel
theorem d_57_137 : decode c_57 137 = .ok (.iload_n 3, 1) := by decide +kernel
theorem d_57_138 : decode c_57 138 = .ok (.iconst (2), 1) := by decide +kernel
theorem d_57_139 : decode c_57 139 = .ok (.invokevirtual 207, 3) := by decide +kernel
theorem d_57_142 : decode c_57 142 = .ok (.lconst 1, 1) := by decide +kernel
theorem d_57_143 : decode c_57 143 = .ok (.lcmp, 1) := by decide +kernel
theorem d_57_144 : decode c_57 144 = .ok (.ifCond .ne (7), 3) := by decide +kernel
theorem d_57_147 : decode c_57 147 = .ok (.iconst (1), 1) := by decide +kernel
theorem d_57_148 : decode c_57 148 = .ok (.goto (4), 3) := by decide +kernel
theorem d_57_151 : decode c_57 151 = .ok (.iconst (0), 1) := by decide +kernel
theorem d_57_152 : decode c_57 152 = .ok (.ireturn, 1) := by decide +kernel
theorem d_57_153 : decode c_57 153 = .ok (.lload 4, 2) := by decide +kernel
theorem d_57_155 : decode c_57 155 = .ok (.invokestatic 211, 3) := by decide +kernel
theorem d_57_158 : decode c_57 158 = .ok (.ireturn, 1) := by decide +kernel
set_option maxRecDepth 4000 in
theorem b_57_0 {mc ms : Nat} {X : Option (Nat × (Nat → Int32))} {T : aj_Tt} {Q : aj_Q} {J : aj_J} (hJ : aj_Cl 1 c_57 (some .boolean) false mc ms X T Q J) {o0 : Nat} {x1 : Int32} {x2 : Int32} {x3 : Int32} {Z : aj_Z} {I : aj_I} {G : aj_G} {C : Nat × Nat} (k0 : Z.2.1 o0 = some (.inl 1)) (h0 : T 0 0 55 [.ref o0, .int x1, .int x2, .int x3, .int 0] Z I G (fun r Z1 I1 G1 => J 8 [some (.ref o0), some (.int x1), some (.int x2), some (.int x3), none, none, none, none, none] (r.toList ++ []) Z1 I1 G1 C)) : J 0 [some (.ref o0), some (.int x1), some (.int x2), some (.int x3), none, none, none, none, none] [] Z I G C := by
  refine s_aload_n hJ d_57_0 rfl ?_
  refine s_iload_n hJ d_57_1 rfl ?_
  refine s_iload_n hJ d_57_2 rfl ?_
  refine s_iload_n hJ d_57_3 rfl ?_
  refine s_iconst_0 hJ d_57_4 ?_
  exact s_V4 hJ lm_1_207 d_57_5 (Nat.le_of_ble_eq_true rfl) k0 (h0)
set_option maxRecDepth 4000 in
theorem b_57_8 {mc ms : Nat} {X : Option (Nat × (Nat → Int32))} {T : aj_Tt} {Q : aj_Q} {J : aj_J} (hJ : aj_Cl 1 c_57 (some .boolean) false mc ms X T Q J) {o0 : Nat} {x1 : Int32} {x2 : Int32} {x3 : Int32} {w4 : Option Value} {w5 : Option Value} {w6 : Option Value} {w7 : Option Value} {w8 : Option Value} {s0 : Int64} {Z : aj_Z} {I : aj_I} {G : aj_G} {C : Nat × Nat} (h0 : ¬ x2 = 0 → ¬ x2 = 1 → T 0 0 56 [.long s0] Z I G (fun r Z1 I1 G1 => J 158 [some (.ref o0), some (.int x1), some (.int x2), some (.int x3), some (.long s0), none, w6, w7, w8] (r.toList ++ []) Z1 I1 G1 C)) (k0 : Z.2.1 o0 = some (.inl 1)) (h1 : ¬ x2 = 0 → x2 = 1 → ¬ x3 = 0 → T 0 0 55 [.ref o0, .int x1, .int x2, .int (x3 - 1), .int 0] Z I G (fun r Z1 I1 G1 => J 85 [some (.ref o0), some (.int x1), some (.int x2), some (.int x3), some (.long s0), none, w6, w7, w8] (r.toList ++ [.long s0]) Z1 I1 G1 C)) (h2 : ¬ x2 = 0 → x2 = 1 → x3 = 0 → ¬ s0 = 1 → J 94 [some (.ref o0), some (.int x1), some (.int x2), some (.int x3), some (.long s0), none, w6, w7, w8] [.int 0] Z I G C) (h3 : ¬ x2 = 0 → x2 = 1 → x3 = 0 → s0 = 1 → J 94 [some (.ref o0), some (.int x1), some (.int x2), some (.int x3), some (.long s0), none, w6, w7, w8] [.int 1] Z I G C) (h4 : x2 = 0 → T 0 0 56 [.long s0] Z I G (fun r Z1 I1 G1 => J 19 [some (.ref o0), some (.int x1), some (.int x2), some (.int x3), some (.long s0), none, w6, w7, w8] (r.toList ++ []) Z1 I1 G1 C)) : J 8 [some (.ref o0), some (.int x1), some (.int x2), some (.int x3), w4, w5, w6, w7, w8] [.long s0] Z I G C := by
  refine s_lstore hJ d_57_8 (Nat.le_of_ble_eq_true rfl) ?_
  refine s_iload_n hJ d_57_10 rfl ?_
  refine s_if_ne (tgt := 49) hJ d_57_11 rfl (fun c0 => ?_) (fun c0 => ?_)
  · skip
    refine s_iload_n hJ d_57_49 rfl ?_
    refine s_iconst_1 hJ d_57_50 ?_
    refine s_icmp_ne (tgt := 153) hJ d_57_51 rfl (fun c1 => ?_) (fun c1 => ?_)
    · skip
      refine s_lload hJ d_57_153 rfl ?_
      exact s_S1 hJ lm_1_211 d_57_155 (Nat.le_of_ble_eq_true rfl) (h0 c0 c1)
    · skip
      refine s_iload_n hJ d_57_54 rfl ?_
      refine s_if_ne (tgt := 73) hJ d_57_55 rfl (fun c2 => ?_) (fun c2 => ?_)
      · skip
        refine s_lload hJ d_57_73 rfl ?_
        refine s_aload_n hJ d_57_75 rfl ?_
        refine s_iload_n hJ d_57_76 rfl ?_
        refine s_iload_n hJ d_57_77 rfl ?_
        refine s_iload_n hJ d_57_78 rfl ?_
        refine s_iconst_1 hJ d_57_79 ?_
        refine s_isub hJ d_57_80 ?_
        refine s_iconst_0 hJ d_57_81 ?_
        exact s_V4 hJ lm_1_207 d_57_82 (Nat.le_of_ble_eq_true rfl) k0 (h1 c0 c1 c2)
      · skip
        refine s_lload hJ d_57_58 rfl ?_
        refine s_lconst_1 hJ d_57_60 ?_
        refine s_lif_ne (tgt := 69) hJ d_57_61 d_57_62 rfl (fun c3 => ?_) (fun c3 => ?_)
        · skip
          refine s_iconst_0 hJ d_57_69 ?_
          refine s_goto (tgt := 94) hJ d_57_70 rfl ?_
          exact h2 c0 c1 c2 c3
        · skip
          refine s_iconst_1 hJ d_57_65 ?_
          refine s_goto (tgt := 94) hJ d_57_66 rfl ?_
          exact h3 c0 c1 c2 c3
  · skip
    refine s_lload hJ d_57_14 rfl ?_
    exact s_S1 hJ lm_1_211 d_57_16 (Nat.le_of_ble_eq_true rfl) (h4 c0)
set_option maxRecDepth 4000 in
theorem b_57_19 {mc ms : Nat} {X : Option (Nat × (Nat → Int32))} {T : aj_Tt} {Q : aj_Q} {J : aj_J} (hJ : aj_Cl 1 c_57 (some .boolean) false mc ms X T Q J) {o0 : Nat} {x1 : Int32} {x2 : Int32} {x3 : Int32} {x4 : Int64} {w5 : Option Value} {w6 : Option Value} {w7 : Option Value} {w8 : Option Value} {s0 : Int32} {Z : aj_Z} {I : aj_I} {G : aj_G} {C : Nat × Nat} (h0 : s0 = 0 → Q (some (.int 0)) Z I G) (h1 : ¬ s0 = 0 → x4 ≤ 0 → Q (some (.int 0)) Z I G) (k0 : Z.2.1 o0 = some (.inl 1)) (h2 : ¬ s0 = 0 → ¬ x4 ≤ 0 → T 0 0 55 [.ref o0, .int x1, .int x2, .int x3, .int 1] Z I G (fun r Z1 I1 G1 => J 37 [some (.ref o0), some (.int x1), some (.int x2), some (.int x3), some (.long x4), w5, w6, w7, w8] (r.toList ++ []) Z1 I1 G1 C)) : J 19 [some (.ref o0), some (.int x1), some (.int x2), some (.int x3), some (.long x4), w5, w6, w7, w8] [.int s0] Z I G C := by
  refine s_if_eq (tgt := 47) hJ d_57_19 rfl (fun c0 => ?_) (fun c0 => ?_)
  · skip
    refine s_iconst_0 hJ d_57_47 ?_
    exact s_iret hJ d_57_48 rfl rfl (h0 c0)
  · skip
    refine s_lload hJ d_57_22 rfl ?_
    refine s_lconst_0 hJ d_57_24 ?_
    refine s_lif_le (tgt := 47) hJ d_57_25 d_57_26 rfl (fun c1 => ?_) (fun c1 => ?_)
    · skip
      refine s_iconst_0 hJ d_57_47 ?_
      exact s_iret hJ d_57_48 rfl rfl (h1 c0 c1)
    · skip
      refine s_aload_n hJ d_57_29 rfl ?_
      refine s_iload_n hJ d_57_30 rfl ?_
      refine s_iload_n hJ d_57_31 rfl ?_
      refine s_iload_n hJ d_57_32 rfl ?_
      refine s_iconst_1 hJ d_57_33 ?_
      exact s_V4 hJ lm_1_207 d_57_34 (Nat.le_of_ble_eq_true rfl) k0 (h2 c0 c1)
set_option maxRecDepth 4000 in
theorem b_57_37 {mc ms : Nat} {X : Option (Nat × (Nat → Int32))} {T : aj_Tt} {Q : aj_Q} {J : aj_J} (hJ : aj_Cl 1 c_57 (some .boolean) false mc ms X T Q J) {w0 : Option Value} {w1 : Option Value} {w2 : Option Value} {w3 : Option Value} {w4 : Option Value} {w5 : Option Value} {w6 : Option Value} {w7 : Option Value} {w8 : Option Value} {s0 : Int64} {Z : aj_Z} {I : aj_I} {G : aj_G} {C : Nat × Nat} (h0 : T 0 0 56 [.long s0] Z I G (fun r Z1 I1 G1 => J 40 [w0, w1, w2, w3, w4, w5, w6, w7, w8] (r.toList ++ []) Z1 I1 G1 C)) : J 37 [w0, w1, w2, w3, w4, w5, w6, w7, w8] [.long s0] Z I G C := by
  exact s_S1 hJ lm_1_211 d_57_37 (Nat.le_of_ble_eq_true rfl) (h0)
set_option maxRecDepth 4000 in
theorem b_57_40 {mc ms : Nat} {X : Option (Nat × (Nat → Int32))} {T : aj_Tt} {Q : aj_Q} {J : aj_J} (hJ : aj_Cl 1 c_57 (some .boolean) false mc ms X T Q J) {w0 : Option Value} {w1 : Option Value} {w2 : Option Value} {w3 : Option Value} {w4 : Option Value} {w5 : Option Value} {w6 : Option Value} {w7 : Option Value} {w8 : Option Value} {s0 : Int32} {Z : aj_Z} {I : aj_I} {G : aj_G} {C : Nat × Nat} (h0 : s0 = 0 → Q (some (.int 0)) Z I G) (h1 : ¬ s0 = 0 → Q (some (.int 1)) Z I G) : J 40 [w0, w1, w2, w3, w4, w5, w6, w7, w8] [.int s0] Z I G C := by
  refine s_if_eq (tgt := 47) hJ d_57_40 rfl (fun c0 => ?_) (fun c0 => ?_)
  · skip
    refine s_iconst_0 hJ d_57_47 ?_
    exact s_iret hJ d_57_48 rfl rfl (h0 c0)
  · skip
    refine s_iconst_1 hJ d_57_43 ?_
    refine s_goto (tgt := 48) hJ d_57_44 rfl ?_
    exact s_iret hJ d_57_48 rfl rfl (h1 c0)
set_option maxRecDepth 4000 in
theorem b_57_85 {mc ms : Nat} {X : Option (Nat × (Nat → Int32))} {T : aj_Tt} {Q : aj_Q} {J : aj_J} (hJ : aj_Cl 1 c_57 (some .boolean) false mc ms X T Q J) {o0 : Nat} {x1 : Int32} {x2 : Int32} {x3 : Int32} {x4 : Int64} {w5 : Option Value} {w6 : Option Value} {w7 : Option Value} {w8 : Option Value} {s0 : Int64} {s1 : Int64} {Z : aj_Z} {I : aj_I} {G : aj_G} {C : Nat × Nat} (h0 : s1 ≤ s0 → J 94 [some (.ref o0), some (.int x1), some (.int x2), some (.int x3), some (.long x4), w5, w6, w7, w8] [.int 0] Z I G C) (h1 : ¬ s1 ≤ s0 → J 94 [some (.ref o0), some (.int x1), some (.int x2), some (.int x3), some (.long x4), w5, w6, w7, w8] [.int 1] Z I G C) : J 85 [some (.ref o0), some (.int x1), some (.int x2), some (.int x3), some (.long x4), w5, w6, w7, w8] [.long s0, .long s1] Z I G C := by
  refine s_lif_le (tgt := 93) hJ d_57_85 d_57_86 rfl (fun c0 => ?_) (fun c0 => ?_)
  · skip
    refine s_iconst_0 hJ d_57_93 ?_
    exact h0 c0
  · skip
    refine s_iconst_1 hJ d_57_89 ?_
    refine s_goto (tgt := 94) hJ d_57_90 rfl ?_
    exact h1 c0
set_option maxRecDepth 4000 in
theorem b_57_94 {mc ms : Nat} {X : Option (Nat × (Nat → Int32))} {T : aj_Tt} {Q : aj_Q} {J : aj_J} (hJ : aj_Cl 1 c_57 (some .boolean) false mc ms X T Q J) {o0 : Nat} {x1 : Int32} {x2 : Int32} {x3 : Int32} {x4 : Int64} {w5 : Option Value} {w6 : Option Value} {w7 : Option Value} {w8 : Option Value} {s0 : Int32} {Z : aj_Z} {I : aj_I} {G : aj_G} {C : Nat × Nat} (k0 : Z.2.1 o0 = some (.inl 1)) (h0 : T 0 0 55 [.ref o0, .int x1, .int x2, .int x3, .int 1] Z I G (fun r Z1 I1 G1 => J 104 [some (.ref o0), some (.int x1), some (.int x2), some (.int x3), some (.long x4), (aj_clr w5), some (.int s0), w7, w8] (r.toList ++ []) Z1 I1 G1 C)) : J 94 [some (.ref o0), some (.int x1), some (.int x2), some (.int x3), some (.long x4), w5, w6, w7, w8] [.int s0] Z I G C := by
  refine s_istore hJ d_57_94 (Nat.le_of_ble_eq_true rfl) ?_
  refine s_aload_n hJ d_57_96 rfl ?_
  refine s_iload_n hJ d_57_97 rfl ?_
  refine s_iload_n hJ d_57_98 rfl ?_
  refine s_iload_n hJ d_57_99 rfl ?_
  refine s_iconst_1 hJ d_57_100 ?_
  exact s_V4 hJ lm_1_207 d_57_101 (Nat.le_of_ble_eq_true rfl) k0 (h0)
set_option maxRecDepth 4000 in
theorem b_57_104 {mc ms : Nat} {X : Option (Nat × (Nat → Int32))} {T : aj_Tt} {Q : aj_Q} {J : aj_J} (hJ : aj_Cl 1 c_57 (some .boolean) false mc ms X T Q J) {o0 : Nat} {x1 : Int32} {x2 : Int32} {x3 : Int32} {x4 : Int64} {w5 : Option Value} {x6 : Int32} {w7 : Option Value} {w8 : Option Value} {s0 : Int64} {Z : aj_Z} {I : aj_I} {G : aj_G} {C : Nat × Nat} (h0 : T 0 0 56 [.long x4] Z I G (fun r Z1 I1 G1 => J 111 [some (.ref o0), some (.int x1), some (.int x2), some (.int x3), some (.long x4), w5, some (.int x6), some (.long s0), none] (r.toList ++ []) Z1 I1 G1 C)) : J 104 [some (.ref o0), some (.int x1), some (.int x2), some (.int x3), some (.long x4), w5, some (.int x6), w7, w8] [.long s0] Z I G C := by
  refine s_lstore hJ d_57_104 (Nat.le_of_ble_eq_true rfl) ?_
  refine s_lload hJ d_57_106 rfl ?_
  exact s_S1 hJ lm_1_211 d_57_108 (Nat.le_of_ble_eq_true rfl) (h0)
set_option maxRecDepth 4000 in
theorem b_57_111 {mc ms : Nat} {X : Option (Nat × (Nat → Int32))} {T : aj_Tt} {Q : aj_Q} {J : aj_J} (hJ : aj_Cl 1 c_57 (some .boolean) false mc ms X T Q J) {o0 : Nat} {x1 : Int32} {x2 : Int32} {x3 : Int32} {w4 : Option Value} {w5 : Option Value} {x6 : Int32} {x7 : Int64} {w8 : Option Value} {s0 : Int32} {Z : aj_Z} {I : aj_I} {G : aj_G} {C : Nat × Nat} (h0 : s0 = 0 → Q (some (.int 0)) Z I G) (h1 : ¬ s0 = 0 → x6 = 0 → Q (some (.int 0)) Z I G) (h2 : ¬ s0 = 0 → ¬ x6 = 0 → T 0 0 56 [.long x7] Z I G (fun r Z1 I1 G1 => J 124 [some (.ref o0), some (.int x1), some (.int x2), some (.int x3), w4, w5, some (.int x6), some (.long x7), w8] (r.toList ++ []) Z1 I1 G1 C)) : J 111 [some (.ref o0), some (.int x1), some (.int x2), some (.int x3), w4, w5, some (.int x6), some (.long x7), w8] [.int s0] Z I G C := by
  refine s_if_eq (tgt := 151) hJ d_57_111 rfl (fun c0 => ?_) (fun c0 => ?_)
  · skip
    refine s_iconst_0 hJ d_57_151 ?_
    exact s_iret hJ d_57_152 rfl rfl (h0 c0)
  · skip
    refine s_iload hJ d_57_114 rfl ?_
    refine s_if_eq (tgt := 151) hJ d_57_116 rfl (fun c1 => ?_) (fun c1 => ?_)
    · skip
      refine s_iconst_0 hJ d_57_151 ?_
      exact s_iret hJ d_57_152 rfl rfl (h1 c0 c1)
    · skip
      refine s_lload hJ d_57_119 rfl ?_
      exact s_S1 hJ lm_1_211 d_57_121 (Nat.le_of_ble_eq_true rfl) (h2 c0 c1)
set_option maxRecDepth 4000 in
theorem b_57_124 {mc ms : Nat} {X : Option (Nat × (Nat → Int32))} {T : aj_Tt} {Q : aj_Q} {J : aj_J} (hJ : aj_Cl 1 c_57 (some .boolean) false mc ms X T Q J) {o0 : Nat} {x1 : Int32} {x2 : Int32} {x3 : Int32} {w4 : Option Value} {w5 : Option Value} {w6 : Option Value} {x7 : Int64} {w8 : Option Value} {s0 : Int32} {Z : aj_Z} {I : aj_I} {G : aj_G} {C : Nat × Nat} (h0 : s0 = 0 → Q (some (.int 0)) Z I G) (h1 : ¬ s0 = 0 → x7 ≤ 0 → Q (some (.int 0)) Z I G) (k0 : Z.2.1 o0 = some (.inl 1)) (h2 : ¬ s0 = 0 → ¬ x7 ≤ 0 → T 0 0 55 [.ref o0, .int x1, .int x2, .int x3, .int 2] Z I G (fun r Z1 I1 G1 => J 142 [some (.ref o0), some (.int x1), some (.int x2), some (.int x3), w4, w5, w6, some (.long x7), w8] (r.toList ++ []) Z1 I1 G1 C)) : J 124 [some (.ref o0), some (.int x1), some (.int x2), some (.int x3), w4, w5, w6, some (.long x7), w8] [.int s0] Z I G C := by
  refine s_if_eq (tgt := 151) hJ d_57_124 rfl (fun c0 => ?_) (fun c0 => ?_)
  · skip
    refine s_iconst_0 hJ d_57_151 ?_
    exact s_iret hJ d_57_152 rfl rfl (h0 c0)
  · skip
    refine s_lload hJ d_57_127 rfl ?_
    refine s_lconst_0 hJ d_57_129 ?_
    refine s_lif_le (tgt := 151) hJ d_57_130 d_57_131 rfl (fun c1 => ?_) (fun c1 => ?_)
    · skip
      refine s_iconst_0 hJ d_57_151 ?_
      exact s_iret hJ d_57_152 rfl rfl (h1 c0 c1)
    · skip
      refine s_aload_n hJ d_57_134 rfl ?_
      refine s_iload_n hJ d_57_135 rfl ?_
      refine s_iload_n hJ d_57_136 rfl ?_
      refine s_iload_n hJ d_57_137 rfl ?_
      refine s_iconst_2 hJ d_57_138 ?_
      exact s_V4 hJ lm_1_207 d_57_139 (Nat.le_of_ble_eq_true rfl) k0 (h2 c0 c1)
set_option maxRecDepth 4000 in
theorem b_57_142 {mc ms : Nat} {X : Option (Nat × (Nat → Int32))} {T : aj_Tt} {Q : aj_Q} {J : aj_J} (hJ : aj_Cl 1 c_57 (some .boolean) false mc ms X T Q J) {w0 : Option Value} {w1 : Option Value} {w2 : Option Value} {w3 : Option Value} {w4 : Option Value} {w5 : Option Value} {w6 : Option Value} {w7 : Option Value} {w8 : Option Value} {s0 : Int64} {Z : aj_Z} {I : aj_I} {G : aj_G} {C : Nat × Nat} (h0 : ¬ s0 = 1 → Q (some (.int 0)) Z I G) (h1 : s0 = 1 → Q (some (.int 1)) Z I G) : J 142 [w0, w1, w2, w3, w4, w5, w6, w7, w8] [.long s0] Z I G C := by
  refine s_lconst_1 hJ d_57_142 ?_
  refine s_lif_ne (tgt := 151) hJ d_57_143 d_57_144 rfl (fun c0 => ?_) (fun c0 => ?_)
  · skip
    refine s_iconst_0 hJ d_57_151 ?_
    exact s_iret hJ d_57_152 rfl rfl (h0 c0)
  · skip
    refine s_iconst_1 hJ d_57_147 ?_
    refine s_goto (tgt := 152) hJ d_57_148 rfl ?_
    exact s_iret hJ d_57_152 rfl rfl (h1 c0)
set_option maxRecDepth 4000 in
theorem b_57_158 {mc ms : Nat} {X : Option (Nat × (Nat → Int32))} {T : aj_Tt} {Q : aj_Q} {J : aj_J} (hJ : aj_Cl 1 c_57 (some .boolean) false mc ms X T Q J) {w0 : Option Value} {w1 : Option Value} {w2 : Option Value} {w3 : Option Value} {w4 : Option Value} {w5 : Option Value} {w6 : Option Value} {w7 : Option Value} {w8 : Option Value} {s0 : Int32} {Z : aj_Z} {I : aj_I} {G : aj_G} {C : Nat × Nat} (h0 : narrow .boolean (.int s0) = .int s0) (h1 : Q (some (.int s0)) Z I G) : J 158 [w0, w1, w2, w3, w4, w5, w6, w7, w8] [.int s0] Z I G C := by
  exact s_iret hJ d_57_158 rfl (h0) (h1)
-- ReelOfBoxesModel.areNumbersRight(II)Z : method 58
theorem d_58_0 : decode c_58 0 = .ok (.aload_n 0, 1) := by decide +kernel
theorem d_58_1 : decode c_58 1 = .ok (.getfield 42, 3) := by decide +kernel
theorem d_58_4 : decode c_58 4 = .ok (.iconst (4), 1) := by decide +kernel
theorem d_58_5 : decode c_58 5 = .ok (.iload_n 1, 1) := by decide +kernel
theorem d_58_6 : decode c_58 6 = .ok (.imul, 1) := by decide +kernel
theorem d_58_7 : decode c_58 7 = .ok (.iload_n 2, 1) := by decide +kernel
theorem d_58_8 : decode c_58 8 = .ok (.iadd, 1) := by decide +kernel
theorem d_58_9 : decode c_58 9 = .ok (.iaload, 1) := by decide +kernel
theorem d_58_10 : decode c_58 10 = .ok (.istore_n 3, 1) := by decide +kernel
theorem d_58_11 : decode c_58 11 = .ok (.aload_n 0, 1) := by decide +kernel
theorem d_58_12 : decode c_58 12 = .ok (.iload_n 3, 1) := by decide +kernel
theorem d_58_13 : decode c_58 13 = .ok (.iconst (4), 1) := by decide +kernel
theorem d_58_14 : decode c_58 14 = .ok (.invokevirtual 139, 3) := by decide +kernel
theorem d_58_17 : decode c_58 17 = .ok (.lconst 0, 1) := by decide +kernel
theorem d_58_18 : decode c_58 18 = .ok (.lcmp, 1) := by decide +kernel
theorem d_58_19 : decode c_58 19 = .ok (.ifCond .ne (38), 3) := by decide +kernel
theorem d_58_22 : decode c_58 22 = .ok (.aload_n 0, 1) := by decide +kernel
theorem d_58_23 : decode c_58 23 = .ok (.iload_n 1, 1) := by decide +kernel
theorem d_58_24 : decode c_58 24 = .ok (.iload_n 2, 1) := by decide +kernel
theorem d_58_25 : decode c_58 25 = .ok (.invokevirtual 196, 3) := by decide +kernel
theorem d_58_28 : decode c_58 28 = .ok (.invokestatic 211, 3) := by decide +kernel
theorem d_58_31 : decode c_58 31 = .ok (.ifCond .eq (26), 3) := by decide +kernel
theorem d_58_34 : decode c_58 34 = .ok (.iload_n 2, 1) := by decide +kernel
theorem d_58_35 : decode c_58 35 = .ok (.iconst (2), 1) := by decide +kernel
theorem d_58_36 : decode c_58 36 = .ok (.if_icmp .ne (17), 3) := by decide +kernel
theorem d_58_39 : decode c_58 39 = .ok (.aload_n 0, 1) := by decide +kernel
theorem d_58_40 : decode c_58 40 = .ok (.iload_n 3, 1) := by decide +kernel
theorem d_58_41 : decode c_58 41 = .ok (.iconst (4), 1) := by decide +kernel
theorem d_58_42 : decode c_58 42 = .ok (.iadd, 1) := by decide +kernel
theorem d_58_43 : decode c_58 43 = .ok (.iconst (4), 1) := by decide +kernel
theorem d_58_44 : decode c_58 44 = .ok (.invokevirtual 139, 3) := by decide +kernel
theorem d_58_47 : decode c_58 47 = .ok (.invokestatic 211, 3) := by decide +kernel
theorem d_58_50 : decode c_58 50 = .ok (.ifCond .eq (7), 3) := by decide +kernel
theorem d_58_53 : decode c_58 53 = .ok (.iconst (1), 1) := by decide +kernel
theorem d_58_54 : decode c_58 54 = .ok (.goto (4), 3) := by decide +kernel
theorem d_58_57 : decode c_58 57 = .ok (.iconst (0), 1) := by decide +kernel
theorem d_58_58 : decode c_58 58 = .ok (.istore 4, 2) := by decide +kernel
theorem d_58_60 : decode c_58 60 = .ok (.aload_n 0, 1) := by decide +kernel
theorem d_58_61 : decode c_58 61 = .ok (.iload_n 1, 1) := by decide +kernel
theorem d_58_62 : decode c_58 62 = .ok (.iload_n 2, 1) := by decide +kernel
theorem d_58_63 : decode c_58 63 = .ok (.invokevirtual 199, 3) := by decide +kernel
theorem d_58_66 : decode c_58 66 = .ok (.l2i, 1) := by decide +kernel
theorem d_58_67 : decode c_58 67 = .ok (.istore 5, 2) := by decide +kernel
theorem d_58_69 : decode c_58 69 = .ok (.iconst (0), 1) := by decide +kernel
theorem d_58_70 : decode c_58 70 = .ok (.istore 6, 2) := by decide +kernel
theorem d_58_72 : decode c_58 72 = .ok (.iload 6, 2) := by decide +kernel
theorem d_58_74 : decode c_58 74 = .ok (.iload 5, 2) := by decide +kernel
theorem d_58_76 : decode c_58 76 = .ok (.if_icmp .ge (24), 3) := by decide +kernel
theorem d_58_79 : decode c_58 79 = .ok (.iload 4, 2) := by decide +kernel
theorem d_58_81 : decode c_58 81 = .ok (.ifCond .eq (19), 3) := by decide +kernel
theorem d_58_84 : decode c_58 84 = .ok (.aload_n 0, 1) := by decide +kernel
theorem d_58_85 : decode c_58 85 = .ok (.iload_n 1, 1) := by decide +kernel
theorem d_58_86 : decode c_58 86 = .ok (.iload_n 2, 1) := by decide +kernel
theorem d_58_87 : decode c_58 87 = .ok (.iload 6, 2) := by decide +kernel
theorem d_58_89 : decode c_58 89 = .ok (.invokevirtual 215, 3) := by decide +kernel
theorem d_58_92 : decode c_58 92 = .ok (.istore 4, 2) := by decide +kernel
theorem d_58_94 : decode c_58 94 = .ok (.iinc 6 (1), 3) := by decide +kernel
theorem d_58_97 : decode c_58 97 = .ok (.goto (-25), 3) := by decide +kernel
theorem d_58_100 : decode c_58 100 = .ok (.iload 4, 2) := by decide +kernel
theorem d_58_102 : decode c_58 102 = .ok (.ireturn, 1) := by decide +kernel
set_option maxRecDepth 4000 in
theorem b_58_0 {mc ms : Nat} {X : Option (Nat × (Nat → Int32))} {T : aj_Tt} {Q : aj_Q} {J : aj_J} (hJ : aj_Cl 1 c_58 (some .boolean) false mc ms X T Q J) {o0 : Nat} {x1 : Int32} {x2 : Int32} {q0 : Nat} {nk1 : Nat} {Z : aj_Z} {I : aj_I} {G : aj_G} {C : Nat × Nat} (k0 : Z.2.1 o0 = some (.inl 1)) (r0 : Z.2.2 o0 18 = .ref q0) (k1 : Z.2.1 q0 = some (.inr (0, nk1))) (h0 : vp_in ((4 * x1) + x2) nk1) (h1 : T 0 0 41 [.ref o0, .int (I q0 (Int32.toNatClampNeg ((4 * x1) + x2))), .int 4] Z I G (fun r Z1 I1 G1 => J 17 [some (.ref o0), some (.int x1), some (.int x2), some (.int (I q0 (Int32.toNatClampNeg ((4 * x1) + x2)))), none, none, none] (r.toList ++ []) Z1 I1 G1 C)) : J 0 [some (.ref o0), some (.int x1), some (.int x2), none, none, none, none] [] Z I G C := by
  refine s_aload_n hJ d_58_0 rfl ?_
  refine s_getr hJ lf_1_42 rfl d_58_1 k0 r0 ?_
  refine s_iconst_4 hJ d_58_4 ?_
  refine s_iload_n hJ d_58_5 rfl ?_
  refine s_imul hJ d_58_6 ?_
  refine s_iload_n hJ d_58_7 rfl ?_
  refine s_iadd hJ d_58_8 ?_
  refine s_iald hJ d_58_9 k1 (h0) ?_
  refine s_istore_n hJ d_58_10 (Nat.le_of_ble_eq_true rfl) ?_
  refine s_aload_n hJ d_58_11 rfl ?_
  refine s_iload_n hJ d_58_12 rfl ?_
  refine s_iconst_4 hJ d_58_13 ?_
  exact s_V2 hJ lm_1_139 d_58_14 (Nat.le_of_ble_eq_true rfl) k0 (h1)
set_option maxRecDepth 4000 in
theorem b_58_17 {mc ms : Nat} {X : Option (Nat × (Nat → Int32))} {T : aj_Tt} {Q : aj_Q} {J : aj_J} (hJ : aj_Cl 1 c_58 (some .boolean) false mc ms X T Q J) {o0 : Nat} {x1 : Int32} {x2 : Int32} {x3 : Int32} {w4 : Option Value} {w5 : Option Value} {w6 : Option Value} {s0 : Int64} {Z : aj_Z} {I : aj_I} {G : aj_G} {C : Nat × Nat} (k0 : Z.2.1 o0 = some (.inl 1)) (h0 : ¬ s0 = 0 → T 0 0 53 [.ref o0, .int x1, .int x2] Z I G (fun r Z1 I1 G1 => J 66 [some (.ref o0), some (.int x1), some (.int x2), some (.int x3), some (.int 0), w5, w6] (r.toList ++ []) Z1 I1 G1 C)) (h1 : s0 = 0 → T 0 0 52 [.ref o0, .int x1, .int x2] Z I G (fun r Z1 I1 G1 => J 28 [some (.ref o0), some (.int x1), some (.int x2), some (.int x3), w4, w5, w6] (r.toList ++ []) Z1 I1 G1 C)) : J 17 [some (.ref o0), some (.int x1), some (.int x2), some (.int x3), w4, w5, w6] [.long s0] Z I G C := by
  refine s_lconst_0 hJ d_58_17 ?_
  refine s_lif_ne (tgt := 57) hJ d_58_18 d_58_19 rfl (fun c0 => ?_) (fun c0 => ?_)
  · skip
    refine s_iconst_0 hJ d_58_57 ?_
    refine s_istore hJ d_58_58 (Nat.le_of_ble_eq_true rfl) ?_
    refine s_aload_n hJ d_58_60 rfl ?_
    refine s_iload_n hJ d_58_61 rfl ?_
    refine s_iload_n hJ d_58_62 rfl ?_
    exact s_V2 hJ lm_1_199 d_58_63 (Nat.le_of_ble_eq_true rfl) k0 (h0 c0)
  · skip
    refine s_aload_n hJ d_58_22 rfl ?_
    refine s_iload_n hJ d_58_23 rfl ?_
    refine s_iload_n hJ d_58_24 rfl ?_
    exact s_V2 hJ lm_1_196 d_58_25 (Nat.le_of_ble_eq_true rfl) k0 (h1 c0)
set_option maxRecDepth 4000 in
theorem b_58_28 {mc ms : Nat} {X : Option (Nat × (Nat → Int32))} {T : aj_Tt} {Q : aj_Q} {J : aj_J} (hJ : aj_Cl 1 c_58 (some .boolean) false mc ms X T Q J) {o0 : Nat} {x1 : Int32} {x2 : Int32} {x3 : Int32} {w4 : Option Value} {w5 : Option Value} {w6 : Option Value} {s0 : Int64} {Z : aj_Z} {I : aj_I} {G : aj_G} {C : Nat × Nat} (h0 : T 0 0 56 [.long s0] Z I G (fun r Z1 I1 G1 => J 31 [some (.ref o0), some (.int x1), some (.int x2), some (.int x3), w4, w5, w6] (r.toList ++ []) Z1 I1 G1 C)) : J 28 [some (.ref o0), some (.int x1), some (.int x2), some (.int x3), w4, w5, w6] [.long s0] Z I G C := by
  exact s_S1 hJ lm_1_211 d_58_28 (Nat.le_of_ble_eq_true rfl) (h0)
set_option maxRecDepth 4000 in
theorem b_58_31 {mc ms : Nat} {X : Option (Nat × (Nat → Int32))} {T : aj_Tt} {Q : aj_Q} {J : aj_J} (hJ : aj_Cl 1 c_58 (some .boolean) false mc ms X T Q J) {o0 : Nat} {x1 : Int32} {x2 : Int32} {x3 : Int32} {w4 : Option Value} {w5 : Option Value} {w6 : Option Value} {s0 : Int32} {Z : aj_Z} {I : aj_I} {G : aj_G} {C : Nat × Nat} (k0 : Z.2.1 o0 = some (.inl 1)) (h0 : s0 = 0 → T 0 0 53 [.ref o0, .int x1, .int x2] Z I G (fun r Z1 I1 G1 => J 66 [some (.ref o0), some (.int x1), some (.int x2), some (.int x3), some (.int 0), w5, w6] (r.toList ++ []) Z1 I1 G1 C)) (h1 : ¬ s0 = 0 → ¬ x2 = 2 → J 53 [some (.ref o0), some (.int x1), some (.int x2), some (.int x3), w4, w5, w6] [] Z I G C) (h2 : ¬ s0 = 0 → x2 = 2 → T 0 0 41 [.ref o0, .int (x3 + 4), .int 4] Z I G (fun r Z1 I1 G1 => J 47 [some (.ref o0), some (.int x1), some (.int x2), some (.int x3), w4, w5, w6] (r.toList ++ []) Z1 I1 G1 C)) : J 31 [some (.ref o0), some (.int x1), some (.int x2), some (.int x3), w4, w5, w6] [.int s0] Z I G C := by
  refine s_if_eq (tgt := 57) hJ d_58_31 rfl (fun c0 => ?_) (fun c0 => ?_)
  · skip
    refine s_iconst_0 hJ d_58_57 ?_
    refine s_istore hJ d_58_58 (Nat.le_of_ble_eq_true rfl) ?_
    refine s_aload_n hJ d_58_60 rfl ?_
    refine s_iload_n hJ d_58_61 rfl ?_
    refine s_iload_n hJ d_58_62 rfl ?_
    exact s_V2 hJ lm_1_199 d_58_63 (Nat.le_of_ble_eq_true rfl) k0 (h0 c0)
  · skip
    refine s_iload_n hJ d_58_34 rfl ?_
    refine s_iconst_2 hJ d_58_35 ?_
    refine s_icmp_ne (tgt := 53) hJ d_58_36 rfl (fun c1 => ?_) (fun c1 => ?_)
    · skip
      exact h1 c0 c1
    · skip
      refine s_aload_n hJ d_58_39 rfl ?_
      refine s_iload_n hJ d_58_40 rfl ?_
      refine s_iconst_4 hJ d_58_41 ?_
      refine s_iadd hJ d_58_42 ?_
      refine s_iconst_4 hJ d_58_43 ?_
      exact s_V2 hJ lm_1_139 d_58_44 (Nat.le_of_ble_eq_true rfl) k0 (h2 c0 c1)
set_option maxRecDepth 4000 in
theorem b_58_47 {mc ms : Nat} {X : Option (Nat × (Nat → Int32))} {T : aj_Tt} {Q : aj_Q} {J : aj_J} (hJ : aj_Cl 1 c_58 (some .boolean) false mc ms X T Q J) {o0 : Nat} {x1 : Int32} {x2 : Int32} {w3 : Option Value} {w4 : Option Value} {w5 : Option Value} {w6 : Option Value} {s0 : Int64} {Z : aj_Z} {I : aj_I} {G : aj_G} {C : Nat × Nat} (h0 : T 0 0 56 [.long s0] Z I G (fun r Z1 I1 G1 => J 50 [some (.ref o0), some (.int x1), some (.int x2), w3, w4, w5, w6] (r.toList ++ []) Z1 I1 G1 C)) : J 47 [some (.ref o0), some (.int x1), some (.int x2), w3, w4, w5, w6] [.long s0] Z I G C := by
  exact s_S1 hJ lm_1_211 d_58_47 (Nat.le_of_ble_eq_true rfl) (h0)
set_option maxRecDepth 4000 in
theorem b_58_50 {mc ms : Nat} {X : Option (Nat × (Nat → Int32))} {T : aj_Tt} {Q : aj_Q} {J : aj_J} (hJ : aj_Cl 1 c_58 (some .boolean) false mc ms X T Q J) {o0 : Nat} {x1 : Int32} {x2 : Int32} {w3 : Option Value} {w4 : Option Value} {w5 : Option Value} {w6 : Option Value} {s0 : Int32} {Z : aj_Z} {I : aj_I} {G : aj_G} {C : Nat × Nat} (k0 : Z.2.1 o0 = some (.inl 1)) (h0 : s0 = 0 → T 0 0 53 [.ref o0, .int x1, .int x2] Z I G (fun r Z1 I1 G1 => J 66 [some (.ref o0), some (.int x1), some (.int x2), (aj_clr w3), some (.int 0), w5, w6] (r.toList ++ []) Z1 I1 G1 C)) (h1 : ¬ s0 = 0 → J 53 [some (.ref o0), some (.int x1), some (.int x2), w3, w4, w5, w6] [] Z I G C) : J 50 [some (.ref o0), some (.int x1), some (.int x2), w3, w4, w5, w6] [.int s0] Z I G C := by
  refine s_if_eq (tgt := 57) hJ d_58_50 rfl (fun c0 => ?_) (fun c0 => ?_)
  · skip
    refine s_iconst_0 hJ d_58_57 ?_
    refine s_istore hJ d_58_58 (Nat.le_of_ble_eq_true rfl) ?_
    refine s_aload_n hJ d_58_60 rfl ?_
    refine s_iload_n hJ d_58_61 rfl ?_
    refine s_iload_n hJ d_58_62 rfl ?_
    exact s_V2 hJ lm_1_199 d_58_63 (Nat.le_of_ble_eq_true rfl) k0 (h0 c0)
  · skip
    exact h1 c0
set_option maxRecDepth 4000 in
theorem b_58_53 {mc ms : Nat} {X : Option (Nat × (Nat → Int32))} {T : aj_Tt} {Q : aj_Q} {J : aj_J} (hJ : aj_Cl 1 c_58 (some .boolean) false mc ms X T Q J) {o0 : Nat} {x1 : Int32} {x2 : Int32} {w3 : Option Value} {w4 : Option Value} {w5 : Option Value} {w6 : Option Value} {Z : aj_Z} {I : aj_I} {G : aj_G} {C : Nat × Nat} (k0 : Z.2.1 o0 = some (.inl 1)) (h0 : T 0 0 53 [.ref o0, .int x1, .int x2] Z I G (fun r Z1 I1 G1 => J 66 [some (.ref o0), some (.int x1), some (.int x2), (aj_clr w3), some (.int 1), w5, w6] (r.toList ++ []) Z1 I1 G1 C)) : J 53 [some (.ref o0), some (.int x1), some (.int x2), w3, w4, w5, w6] [] Z I G C := by
  refine s_iconst_1 hJ d_58_53 ?_
  refine s_goto (tgt := 58) hJ d_58_54 rfl ?_
  refine s_istore hJ d_58_58 (Nat.le_of_ble_eq_true rfl) ?_
  refine s_aload_n hJ d_58_60 rfl ?_
  refine s_iload_n hJ d_58_61 rfl ?_
  refine s_iload_n hJ d_58_62 rfl ?_
  exact s_V2 hJ lm_1_199 d_58_63 (Nat.le_of_ble_eq_true rfl) k0 (h0)
set_option maxRecDepth 4000 in
theorem b_58_66 {mc ms : Nat} {X : Option (Nat × (Nat → Int32))} {T : aj_Tt} {Q : aj_Q} {J : aj_J} (hJ : aj_Cl 1 c_58 (some .boolean) false mc ms X T Q J) {o0 : Nat} {x1 : Int32} {x2 : Int32} {w3 : Option Value} {x4 : Int32} {w5 : Option Value} {w6 : Option Value} {s0 : Int64} {Z : aj_Z} {I : aj_I} {G : aj_G} {C : Nat × Nat} (h0 : J 72 [some (.ref o0), some (.int x1), some (.int x2), w3, some (.int x4), some (.int (Int64.toInt32 s0)), some (.int 0)] [] Z I G C) : J 66 [some (.ref o0), some (.int x1), some (.int x2), w3, some (.int x4), w5, w6] [.long s0] Z I G C := by
  refine s_l2i hJ d_58_66 ?_
  refine s_istore hJ d_58_67 (Nat.le_of_ble_eq_true rfl) ?_
  refine s_iconst_0 hJ d_58_69 ?_
  refine s_istore hJ d_58_70 (Nat.le_of_ble_eq_true rfl) ?_
  exact h0
set_option maxRecDepth 4000 in
theorem b_58_72 {mc ms : Nat} {X : Option (Nat × (Nat → Int32))} {T : aj_Tt} {Q : aj_Q} {J : aj_J} (hJ : aj_Cl 1 c_58 (some .boolean) false mc ms X T Q J) {o0 : Nat} {x1 : Int32} {x2 : Int32} {w3 : Option Value} {x4 : Int32} {x5 : Int32} {x6 : Int32} {Z : aj_Z} {I : aj_I} {G : aj_G} {C : Nat × Nat} (h0 : x5 ≤ x6 → narrow .boolean (.int x4) = .int x4) (h1 : x5 ≤ x6 → Q (some (.int x4)) Z I G) (h2 : ¬ x5 ≤ x6 → x4 = 0 → narrow .boolean (.int x4) = .int x4) (h3 : ¬ x5 ≤ x6 → x4 = 0 → Q (some (.int x4)) Z I G) (k0 : Z.2.1 o0 = some (.inl 1)) (h4 : ¬ x5 ≤ x6 → ¬ x4 = 0 → T 0 0 57 [.ref o0, .int x1, .int x2, .int x6] Z I G (fun r Z1 I1 G1 => J 92 [some (.ref o0), some (.int x1), some (.int x2), w3, some (.int x4), some (.int x5), some (.int x6)] (r.toList ++ []) Z1 I1 G1 C)) : J 72 [some (.ref o0), some (.int x1), some (.int x2), w3, some (.int x4), some (.int x5), some (.int x6)] [] Z I G C := by
  refine s_iload hJ d_58_72 rfl ?_
  refine s_iload hJ d_58_74 rfl ?_
  refine s_icmp_ge (tgt := 100) hJ d_58_76 rfl (fun c0 => ?_) (fun c0 => ?_)
  · skip
    refine s_iload hJ d_58_100 rfl ?_
    exact s_iret hJ d_58_102 rfl (h0 c0) (h1 c0)
  · skip
    refine s_iload hJ d_58_79 rfl ?_
    refine s_if_eq (tgt := 100) hJ d_58_81 rfl (fun c1 => ?_) (fun c1 => ?_)
    · skip
      refine s_iload hJ d_58_100 rfl ?_
      exact s_iret hJ d_58_102 rfl (h2 c0 c1) (h3 c0 c1)
    · skip
      refine s_aload_n hJ d_58_84 rfl ?_
      refine s_iload_n hJ d_58_85 rfl ?_
      refine s_iload_n hJ d_58_86 rfl ?_
      refine s_iload hJ d_58_87 rfl ?_
      exact s_V3 hJ lm_1_215 d_58_89 (Nat.le_of_ble_eq_true rfl) k0 (h4 c0 c1)
set_option maxRecDepth 4000 in
theorem b_58_92 {mc ms : Nat} {X : Option (Nat × (Nat → Int32))} {T : aj_Tt} {Q : aj_Q} {J : aj_J} (hJ : aj_Cl 1 c_58 (some .boolean) false mc ms X T Q J) {o0 : Nat} {x1 : Int32} {x2 : Int32} {w3 : Option Value} {w4 : Option Value} {x5 : Int32} {x6 : Int32} {s0 : Int32} {Z : aj_Z} {I : aj_I} {G : aj_G} {C : Nat × Nat} (h0 : J 72 [some (.ref o0), some (.int x1), some (.int x2), (aj_clr w3), some (.int s0), some (.int x5), some (.int (x6 + 1))] [] Z I G C) : J 92 [some (.ref o0), some (.int x1), some (.int x2), w3, w4, some (.int x5), some (.int x6)] [.int s0] Z I G C := by
  refine s_istore hJ d_58_92 (Nat.le_of_ble_eq_true rfl) ?_
  refine s_iinc (v := 1) hJ d_58_94 rfl (by decide) ?_
  refine s_goto (tgt := 72) hJ d_58_97 rfl ?_
  exact h0
-- ReelOfBoxesModel.readTables()I : method 59
theorem d_59_0 : decode c_59 0 = .ok (.iconst (0), 1) := by decide +kernel
theorem d_59_1 : decode c_59 1 = .ok (.istore_n 1, 1) := by decide +kernel
theorem d_59_2 : decode c_59 2 = .ok (.iload_n 1, 1) := by decide +kernel
theorem d_59_3 : decode c_59 3 = .ok (.aload_n 0, 1) := by decide +kernel
theorem d_59_4 : decode c_59 4 = .ok (.getfield 161, 3) := by decide +kernel
theorem d_59_7 : decode c_59 7 = .ok (.if_icmp .ge (72), 3) := by decide +kernel
theorem d_59_10 : decode c_59 10 = .ok (.iconst (0), 1) := by decide +kernel
theorem d_59_11 : decode c_59 11 = .ok (.istore_n 2, 1) := by decide +kernel
theorem d_59_12 : decode c_59 12 = .ok (.iload_n 2, 1) := by decide +kernel
theorem d_59_13 : decode c_59 13 = .ok (.iconst (4), 1) := by decide +kernel
theorem d_59_14 : decode c_59 14 = .ok (.if_icmp .ge (59), 3) := by decide +kernel
theorem d_59_17 : decode c_59 17 = .ok (.aload_n 0, 1) := by decide +kernel
theorem d_59_18 : decode c_59 18 = .ok (.iload_n 1, 1) := by decide +kernel
theorem d_59_19 : decode c_59 19 = .ok (.iload_n 2, 1) := by decide +kernel
theorem d_59_20 : decode c_59 20 = .ok (.invokevirtual 219, 3) := by decide +kernel
theorem d_59_23 : decode c_59 23 = .ok (.ifCond .ne (19), 3) := by decide +kernel
theorem d_59_26 : decode c_59 26 = .ok (.aload_n 0, 1) := by decide +kernel
theorem d_59_27 : decode c_59 27 = .ok (.iconst (4), 1) := by decide +kernel
theorem d_59_28 : decode c_59 28 = .ok (.aload_n 0, 1) := by decide +kernel
theorem d_59_29 : decode c_59 29 = .ok (.getfield 39, 3) := by decide +kernel
theorem d_59_32 : decode c_59 32 = .ok (.iconst (4), 1) := by decide +kernel
theorem d_59_33 : decode c_59 33 = .ok (.iload_n 1, 1) := by decide +kernel
theorem d_59_34 : decode c_59 34 = .ok (.imul, 1) := by decide +kernel
theorem d_59_35 : decode c_59 35 = .ok (.iload_n 2, 1) := by decide +kernel
theorem d_59_36 : decode c_59 36 = .ok (.iadd, 1) := by decide +kernel
theorem d_59_37 : decode c_59 37 = .ok (.iaload, 1) := by decide +kernel
theorem d_59_38 : decode c_59 38 = .ok (.invokevirtual 177, 3) := by decide +kernel
theorem d_59_41 : decode c_59 41 = .ok (.ireturn, 1) := by decide +kernel
theorem d_59_42 : decode c_59 42 = .ok (.aload_n 0, 1) := by decide +kernel
theorem d_59_43 : decode c_59 43 = .ok (.iload_n 1, 1) := by decide +kernel
theorem d_59_44 : decode c_59 44 = .ok (.iload_n 2, 1) := by decide +kernel
theorem d_59_45 : decode c_59 45 = .ok (.invokevirtual 222, 3) := by decide +kernel
theorem d_59_48 : decode c_59 48 = .ok (.ifCond .ne (19), 3) := by decide +kernel
theorem d_59_51 : decode c_59 51 = .ok (.aload_n 0, 1) := by decide +kernel
theorem d_59_52 : decode c_59 52 = .ok (.iconst (5), 1) := by decide +kernel
theorem d_59_53 : decode c_59 53 = .ok (.aload_n 0, 1) := by decide +kernel
theorem d_59_54 : decode c_59 54 = .ok (.getfield 39, 3) := by decide +kernel
theorem d_59_57 : decode c_59 57 = .ok (.iconst (4), 1) := by decide +kernel
theorem d_59_58 : decode c_59 58 = .ok (.iload_n 1, 1) := by decide +kernel
theorem d_59_59 : decode c_59 59 = .ok (.imul, 1) := by decide +kernel
theorem d_59_60 : decode c_59 60 = .ok (.iload_n 2, 1) := by decide +kernel
theorem d_59_61 : decode c_59 61 = .ok (.iadd, 1) := by decide +kernel
theorem d_59_62 : decode c_59 62 = .ok (.iaload, 1) := by decide +kernel
theorem d_59_63 : decode c_59 63 = .ok (.invokevirtual 177, 3) := by decide +kernel
theorem d_59_66 : decode c_59 66 = .ok (.ireturn, 1) := by decide +kernel
theorem d_59_67 : decode c_59 67 = .ok (.iinc 2 (1), 3) := by decide +kernel
theorem d_59_70 : decode c_59 70 = .ok (.goto (-58), 3) := by decide +kernel
theorem d_59_73 : decode c_59 73 = .ok (.iinc 1 (1), 3) := by decide +kernel
theorem d_59_76 : decode c_59 76 = .ok (.goto (-74), 3) := by decide +kernel
theorem d_59_79 : decode c_59 79 = .ok (.iconst (0), 1) := by decide +kernel
theorem d_59_80 : decode c_59 80 = .ok (.ireturn, 1) := by decide +kernel
set_option maxRecDepth 4000 in
theorem b_59_0 {mc ms : Nat} {X : Option (Nat × (Nat → Int32))} {T : aj_Tt} {Q : aj_Q} {J : aj_J} (hJ : aj_Cl 1 c_59 (some .int) false mc ms X T Q J) {o0 : Nat} {Z : aj_Z} {I : aj_I} {G : aj_G} {C : Nat × Nat} (h0 : J 2 [some (.ref o0), some (.int 0), none] [] Z I G C) : J 0 [some (.ref o0), none, none] [] Z I G C := by
  refine s_iconst_0 hJ d_59_0 ?_
  refine s_istore_n hJ d_59_1 (Nat.le_of_ble_eq_true rfl) ?_
  exact h0
set_option maxRecDepth 4000 in
theorem b_59_2 {mc ms : Nat} {X : Option (Nat × (Nat → Int32))} {T : aj_Tt} {Q : aj_Q} {J : aj_J} (hJ : aj_Cl 1 c_59 (some .int) false mc ms X T Q J) {o0 : Nat} {x1 : Int32} {w2 : Option Value} {Z : aj_Z} {I : aj_I} {G : aj_G} {C : Nat × Nat} (k0 : Z.2.1 o0 = some (.inl 1)) (h0 : (I o0 15) ≤ x1 → Q (some (.int 0)) Z I G) (h1 : ¬ (I o0 15) ≤ x1 → J 12 [some (.ref o0), some (.int x1), some (.int 0)] [] Z I G C) : J 2 [some (.ref o0), some (.int x1), w2] [] Z I G C := by
  refine s_iload_n hJ d_59_2 rfl ?_
  refine s_aload_n hJ d_59_3 rfl ?_
  refine s_geti hJ lf_1_161 rfl d_59_4 k0 ?_
  refine s_icmp_ge (tgt := 79) hJ d_59_7 rfl (fun c0 => ?_) (fun c0 => ?_)
  · skip
    refine s_iconst_0 hJ d_59_79 ?_
    exact s_iret hJ d_59_80 rfl rfl (h0 c0)
  · skip
    refine s_iconst_0 hJ d_59_10 ?_
    refine s_istore_n hJ d_59_11 (Nat.le_of_ble_eq_true rfl) ?_
    exact h1 c0
set_option maxRecDepth 4000 in
theorem b_59_12 {mc ms : Nat} {X : Option (Nat × (Nat → Int32))} {T : aj_Tt} {Q : aj_Q} {J : aj_J} (hJ : aj_Cl 1 c_59 (some .int) false mc ms X T Q J) {o0 : Nat} {x1 : Int32} {x2 : Int32} {Z : aj_Z} {I : aj_I} {G : aj_G} {C : Nat × Nat} (h0 : 4 ≤ x2 → J 2 [some (.ref o0), some (.int (x1 + 1)), some (.int x2)] [] Z I G C) (k0 : Z.2.1 o0 = some (.inl 1)) (h1 : ¬ 4 ≤ x2 → T 0 0 54 [.ref o0, .int x1, .int x2] Z I G (fun r Z1 I1 G1 => J 23 [some (.ref o0), some (.int x1), some (.int x2)] (r.toList ++ []) Z1 I1 G1 C)) : J 12 [some (.ref o0), some (.int x1), some (.int x2)] [] Z I G C := by
  refine s_iload_n hJ d_59_12 rfl ?_
  refine s_iconst_4 hJ d_59_13 ?_
  refine s_icmp_ge (tgt := 73) hJ d_59_14 rfl (fun c0 => ?_) (fun c0 => ?_)
  · skip
    refine s_iinc (v := 1) hJ d_59_73 rfl (by decide) ?_
    refine s_goto (tgt := 2) hJ d_59_76 rfl ?_
    exact h0 c0
  · skip
    refine s_aload_n hJ d_59_17 rfl ?_
    refine s_iload_n hJ d_59_18 rfl ?_
    refine s_iload_n hJ d_59_19 rfl ?_
    exact s_V2 hJ lm_1_219 d_59_20 (Nat.le_of_ble_eq_true rfl) k0 (h1 c0)
set_option maxRecDepth 4000 in
theorem b_59_23 {mc ms : Nat} {X : Option (Nat × (Nat → Int32))} {T : aj_Tt} {Q : aj_Q} {J : aj_J} (hJ : aj_Cl 1 c_59 (some .int) false mc ms X T Q J) {o0 : Nat} {x1 : Int32} {x2 : Int32} {s0 : Int32} {q0 : Nat} {nk1 : Nat} {Z : aj_Z} {I : aj_I} {G : aj_G} {C : Nat × Nat} (k0 : Z.2.1 o0 = some (.inl 1)) (h0 : ¬ s0 = 0 → T 0 0 58 [.ref o0, .int x1, .int x2] Z I G (fun r Z1 I1 G1 => J 48 [some (.ref o0), some (.int x1), some (.int x2)] (r.toList ++ []) Z1 I1 G1 C)) (r0 : Z.2.2 o0 17 = .ref q0) (k1 : Z.2.1 q0 = some (.inr (0, nk1))) (h1 : s0 = 0 → vp_in ((4 * x1) + x2) nk1) (h2 : s0 = 0 → T 0 0 48 [.ref o0, .int 4, .int (I q0 (Int32.toNatClampNeg ((4 * x1) + x2)))] Z I G (fun r Z1 I1 G1 => J 41 [some (.ref o0), some (.int x1), some (.int x2)] (r.toList ++ []) Z1 I1 G1 C)) : J 23 [some (.ref o0), some (.int x1), some (.int x2)] [.int s0] Z I G C := by
  refine s_if_ne (tgt := 42) hJ d_59_23 rfl (fun c0 => ?_) (fun c0 => ?_)
  · skip
    refine s_aload_n hJ d_59_42 rfl ?_
    refine s_iload_n hJ d_59_43 rfl ?_
    refine s_iload_n hJ d_59_44 rfl ?_
    exact s_V2 hJ lm_1_222 d_59_45 (Nat.le_of_ble_eq_true rfl) k0 (h0 c0)
  · skip
    refine s_aload_n hJ d_59_26 rfl ?_
    refine s_iconst_4 hJ d_59_27 ?_
    refine s_aload_n hJ d_59_28 rfl ?_
    refine s_getr hJ lf_1_39 rfl d_59_29 k0 r0 ?_
    refine s_iconst_4 hJ d_59_32 ?_
    refine s_iload_n hJ d_59_33 rfl ?_
    refine s_imul hJ d_59_34 ?_
    refine s_iload_n hJ d_59_35 rfl ?_
    refine s_iadd hJ d_59_36 ?_
    refine s_iald hJ d_59_37 k1 (h1 c0) ?_
    exact s_V2 hJ lm_1_177 d_59_38 (Nat.le_of_ble_eq_true rfl) k0 (h2 c0)
set_option maxRecDepth 4000 in
theorem b_59_41 {mc ms : Nat} {X : Option (Nat × (Nat → Int32))} {T : aj_Tt} {Q : aj_Q} {J : aj_J} (hJ : aj_Cl 1 c_59 (some .int) false mc ms X T Q J) {w0 : Option Value} {w1 : Option Value} {w2 : Option Value} {s0 : Int32} {Z : aj_Z} {I : aj_I} {G : aj_G} {C : Nat × Nat} (h0 : Q (some (.int s0)) Z I G) : J 41 [w0, w1, w2] [.int s0] Z I G C := by
  exact s_iret hJ d_59_41 rfl rfl (h0)
set_option maxRecDepth 4000 in
theorem b_59_48 {mc ms : Nat} {X : Option (Nat × (Nat → Int32))} {T : aj_Tt} {Q : aj_Q} {J : aj_J} (hJ : aj_Cl 1 c_59 (some .int) false mc ms X T Q J) {o0 : Nat} {x1 : Int32} {x2 : Int32} {s0 : Int32} {q0 : Nat} {nk1 : Nat} {Z : aj_Z} {I : aj_I} {G : aj_G} {C : Nat × Nat} (h0 : ¬ s0 = 0 → J 12 [some (.ref o0), some (.int x1), some (.int (x2 + 1))] [] Z I G C) (k0 : Z.2.1 o0 = some (.inl 1)) (r0 : Z.2.2 o0 17 = .ref q0) (k1 : Z.2.1 q0 = some (.inr (0, nk1))) (h1 : s0 = 0 → vp_in ((4 * x1) + x2) nk1) (h2 : s0 = 0 → T 0 0 48 [.ref o0, .int 5, .int (I q0 (Int32.toNatClampNeg ((4 * x1) + x2)))] Z I G (fun r Z1 I1 G1 => J 66 [some (.ref o0), some (.int x1), some (.int x2)] (r.toList ++ []) Z1 I1 G1 C)) : J 48 [some (.ref o0), some (.int x1), some (.int x2)] [.int s0] Z I G C := by
  refine s_if_ne (tgt := 67) hJ d_59_48 rfl (fun c0 => ?_) (fun c0 => ?_)
  · skip
    refine s_iinc (v := 1) hJ d_59_67 rfl (by decide) ?_
    refine s_goto (tgt := 12) hJ d_59_70 rfl ?_
    exact h0 c0
  · skip
    refine s_aload_n hJ d_59_51 rfl ?_
    refine s_iconst_5 hJ d_59_52 ?_
    refine s_aload_n hJ d_59_53 rfl ?_
    refine s_getr hJ lf_1_39 rfl d_59_54 k0 r0 ?_
    refine s_iconst_4 hJ d_59_57 ?_
    refine s_iload_n hJ d_59_58 rfl ?_
    refine s_imul hJ d_59_59 ?_
    refine s_iload_n hJ d_59_60 rfl ?_
    refine s_iadd hJ d_59_61 ?_
    refine s_iald hJ d_59_62 k1 (h1 c0) ?_
    exact s_V2 hJ lm_1_177 d_59_63 (Nat.le_of_ble_eq_true rfl) k0 (h2 c0)
set_option maxRecDepth 4000 in
theorem b_59_66 {mc ms : Nat} {X : Option (Nat × (Nat → Int32))} {T : aj_Tt} {Q : aj_Q} {J : aj_J} (hJ : aj_Cl 1 c_59 (some .int) false mc ms X T Q J) {w0 : Option Value} {w1 : Option Value} {w2 : Option Value} {s0 : Int32} {Z : aj_Z} {I : aj_I} {G : aj_G} {C : Nat × Nat} (h0 : Q (some (.int s0)) Z I G) : J 66 [w0, w1, w2] [.int s0] Z I G C := by
  exact s_iret hJ d_59_66 rfl rfl (h0)
-- ReelOfBoxesModel.perChunk(II)J : method 60
theorem d_60_0 : decode c_60 0 = .ok (.lconst 0, 1) := by decide +kernel
theorem d_60_1 : decode c_60 1 = .ok (.lstore_n 3, 1) := by decide +kernel
theorem d_60_2 : decode c_60 2 = .ok (.iconst (0), 1) := by decide +kernel
theorem d_60_3 : decode c_60 3 = .ok (.istore 5, 2) := by decide +kernel
theorem d_60_5 : decode c_60 5 = .ok (.iload 5, 2) := by decide +kernel
theorem d_60_7 : decode c_60 7 = .ok (.i2l, 1) := by decide +kernel
theorem d_60_8 : decode c_60 8 = .ok (.aload_n 0, 1) := by decide +kernel
theorem d_60_9 : decode c_60 9 = .ok (.iload_n 1, 1) := by decide +kernel
theorem d_60_10 : decode c_60 10 = .ok (.iconst (1), 1) := by decide +kernel
theorem d_60_11 : decode c_60 11 = .ok (.invokevirtual 199, 3) := by decide +kernel
theorem d_60_14 : decode c_60 14 = .ok (.lcmp, 1) := by decide +kernel
theorem d_60_15 : decode c_60 15 = .ok (.ifCond .ge (38), 3) := by decide +kernel
theorem d_60_18 : decode c_60 18 = .ok (.aload_n 0, 1) := by decide +kernel
theorem d_60_19 : decode c_60 19 = .ok (.iload_n 1, 1) := by decide +kernel
theorem d_60_20 : decode c_60 20 = .ok (.iconst (1), 1) := by decide +kernel
theorem d_60_21 : decode c_60 21 = .ok (.iload 5, 2) := by decide +kernel
theorem d_60_23 : decode c_60 23 = .ok (.iconst (0), 1) := by decide +kernel
theorem d_60_24 : decode c_60 24 = .ok (.invokevirtual 207, 3) := by decide +kernel
theorem d_60_27 : decode c_60 27 = .ok (.iload_n 2, 1) := by decide +kernel
theorem d_60_28 : decode c_60 28 = .ok (.i2l, 1) := by decide +kernel
theorem d_60_29 : decode c_60 29 = .ok (.lcmp, 1) := by decide +kernel
theorem d_60_30 : decode c_60 30 = .ok (.ifCond .gt (15), 3) := by decide +kernel
theorem d_60_33 : decode c_60 33 = .ok (.aload_n 0, 1) := by decide +kernel
theorem d_60_34 : decode c_60 34 = .ok (.iload_n 1, 1) := by decide +kernel
theorem d_60_35 : decode c_60 35 = .ok (.iconst (1), 1) := by decide +kernel
theorem d_60_36 : decode c_60 36 = .ok (.iload 5, 2) := by decide +kernel
theorem d_60_38 : decode c_60 38 = .ok (.iconst (1), 1) := by decide +kernel
theorem d_60_39 : decode c_60 39 = .ok (.invokevirtual 207, 3) := by decide +kernel
theorem d_60_42 : decode c_60 42 = .ok (.goto (4), 3) := by decide +kernel
theorem d_60_45 : decode c_60 45 = .ok (.lload_n 3, 1) := by decide +kernel
theorem d_60_46 : decode c_60 46 = .ok (.lstore_n 3, 1) := by decide +kernel
theorem d_60_47 : decode c_60 47 = .ok (.iinc 5 (1), 3) := by decide +kernel
theorem d_60_50 : decode c_60 50 = .ok (.goto (-45), 3) := by decide +kernel
theorem d_60_53 : decode c_60 53 = .ok (.lload_n 3, 1) := by decide +kernel
theorem d_60_54 : decode c_60 54 = .ok (.lreturn, 1) := by decide +kernel
set_option maxRecDepth 4000 in
theorem b_60_0 {mc ms : Nat} {X : Option (Nat × (Nat → Int32))} {T : aj_Tt} {Q : aj_Q} {J : aj_J} (hJ : aj_Cl 1 c_60 (some .long) false mc ms X T Q J) {o0 : Nat} {x1 : Int32} {x2 : Int32} {Z : aj_Z} {I : aj_I} {G : aj_G} {C : Nat × Nat} (h0 : J 5 [some (.ref o0), some (.int x1), some (.int x2), some (.long 0), none, some (.int 0)] [] Z I G C) : J 0 [some (.ref o0), some (.int x1), some (.int x2), none, none, none] [] Z I G C := by
  refine s_lconst_0 hJ d_60_0 ?_
  refine s_lstore_n hJ d_60_1 (Nat.le_of_ble_eq_true rfl) ?_
  refine s_iconst_0 hJ d_60_2 ?_
  refine s_istore hJ d_60_3 (Nat.le_of_ble_eq_true rfl) ?_
  exact h0
set_option maxRecDepth 4000 in
theorem b_60_5 {mc ms : Nat} {X : Option (Nat × (Nat → Int32))} {T : aj_Tt} {Q : aj_Q} {J : aj_J} (hJ : aj_Cl 1 c_60 (some .long) false mc ms X T Q J) {o0 : Nat} {x1 : Int32} {x2 : Int32} {x3 : Int64} {w4 : Option Value} {x5 : Int32} {Z : aj_Z} {I : aj_I} {G : aj_G} {C : Nat × Nat} (k0 : Z.2.1 o0 = some (.inl 1)) (h0 : T 0 0 53 [.ref o0, .int x1, .int 1] Z I G (fun r Z1 I1 G1 => J 14 [some (.ref o0), some (.int x1), some (.int x2), some (.long x3), w4, some (.int x5)] (r.toList ++ [.long (Int32.toInt64 x5)]) Z1 I1 G1 C)) : J 5 [some (.ref o0), some (.int x1), some (.int x2), some (.long x3), w4, some (.int x5)] [] Z I G C := by
  refine s_iload hJ d_60_5 rfl ?_
  refine s_i2l hJ d_60_7 ?_
  refine s_aload_n hJ d_60_8 rfl ?_
  refine s_iload_n hJ d_60_9 rfl ?_
  refine s_iconst_1 hJ d_60_10 ?_
  exact s_V2 hJ lm_1_199 d_60_11 (Nat.le_of_ble_eq_true rfl) k0 (h0)
set_option maxRecDepth 4000 in
theorem b_60_14 {mc ms : Nat} {X : Option (Nat × (Nat → Int32))} {T : aj_Tt} {Q : aj_Q} {J : aj_J} (hJ : aj_Cl 1 c_60 (some .long) false mc ms X T Q J) {o0 : Nat} {x1 : Int32} {x2 : Int32} {x3 : Int64} {w4 : Option Value} {x5 : Int32} {s0 : Int64} {s1 : Int64} {Z : aj_Z} {I : aj_I} {G : aj_G} {C : Nat × Nat} (h0 : s0 ≤ s1 → Q (some (.long x3)) Z I G) (k0 : Z.2.1 o0 = some (.inl 1)) (h1 : ¬ s0 ≤ s1 → T 0 0 55 [.ref o0, .int x1, .int 1, .int x5, .int 0] Z I G (fun r Z1 I1 G1 => J 27 [some (.ref o0), some (.int x1), some (.int x2), some (.long x3), w4, some (.int x5)] (r.toList ++ []) Z1 I1 G1 C)) : J 14 [some (.ref o0), some (.int x1), some (.int x2), some (.long x3), w4, some (.int x5)] [.long s0, .long s1] Z I G C := by
  refine s_lif_ge (tgt := 53) hJ d_60_14 d_60_15 rfl (fun c0 => ?_) (fun c0 => ?_)
  · skip
    refine s_lload_n hJ d_60_53 rfl ?_
    exact s_lret hJ d_60_54 rfl (h0 c0)
  · skip
    refine s_aload_n hJ d_60_18 rfl ?_
    refine s_iload_n hJ d_60_19 rfl ?_
    refine s_iconst_1 hJ d_60_20 ?_
    refine s_iload hJ d_60_21 rfl ?_
    refine s_iconst_0 hJ d_60_23 ?_
    exact s_V4 hJ lm_1_207 d_60_24 (Nat.le_of_ble_eq_true rfl) k0 (h1 c0)
set_option maxRecDepth 4000 in
theorem b_60_27 {mc ms : Nat} {X : Option (Nat × (Nat → Int32))} {T : aj_Tt} {Q : aj_Q} {J : aj_J} (hJ : aj_Cl 1 c_60 (some .long) false mc ms X T Q J) {o0 : Nat} {x1 : Int32} {x2 : Int32} {x3 : Int64} {w4 : Option Value} {x5 : Int32} {s0 : Int64} {Z : aj_Z} {I : aj_I} {G : aj_G} {C : Nat × Nat} (h0 : (Int32.toInt64 x2) < s0 → J 5 [some (.ref o0), some (.int x1), some (.int x2), some (.long x3), none, some (.int (x5 + 1))] [] Z I G C) (k0 : Z.2.1 o0 = some (.inl 1)) (h1 : ¬ (Int32.toInt64 x2) < s0 → T 0 0 55 [.ref o0, .int x1, .int 1, .int x5, .int 1] Z I G (fun r Z1 I1 G1 => J 42 [some (.ref o0), some (.int x1), some (.int x2), some (.long x3), w4, some (.int x5)] (r.toList ++ []) Z1 I1 G1 C)) : J 27 [some (.ref o0), some (.int x1), some (.int x2), some (.long x3), w4, some (.int x5)] [.long s0] Z I G C := by
  refine s_iload_n hJ d_60_27 rfl ?_
  refine s_i2l hJ d_60_28 ?_
  refine s_lif_gt (tgt := 45) hJ d_60_29 d_60_30 rfl (fun c0 => ?_) (fun c0 => ?_)
  · skip
    refine s_lload_n hJ d_60_45 rfl ?_
    refine s_lstore_n hJ d_60_46 (Nat.le_of_ble_eq_true rfl) ?_
    refine s_iinc (v := 1) hJ d_60_47 rfl (by decide) ?_
    refine s_goto (tgt := 5) hJ d_60_50 rfl ?_
    exact h0 c0
  · skip
    refine s_aload_n hJ d_60_33 rfl ?_
    refine s_iload_n hJ d_60_34 rfl ?_
    refine s_iconst_1 hJ d_60_35 ?_
    refine s_iload hJ d_60_36 rfl ?_
    refine s_iconst_1 hJ d_60_38 ?_
    exact s_V4 hJ lm_1_207 d_60_39 (Nat.le_of_ble_eq_true rfl) k0 (h1 c0)
set_option maxRecDepth 4000 in
theorem b_60_42 {mc ms : Nat} {X : Option (Nat × (Nat → Int32))} {T : aj_Tt} {Q : aj_Q} {J : aj_J} (hJ : aj_Cl 1 c_60 (some .long) false mc ms X T Q J) {o0 : Nat} {x1 : Int32} {x2 : Int32} {w3 : Option Value} {w4 : Option Value} {x5 : Int32} {s0 : Int64} {Z : aj_Z} {I : aj_I} {G : aj_G} {C : Nat × Nat} (h0 : J 5 [some (.ref o0), some (.int x1), some (.int x2), some (.long s0), none, some (.int (x5 + 1))] [] Z I G C) : J 42 [some (.ref o0), some (.int x1), some (.int x2), w3, w4, some (.int x5)] [.long s0] Z I G C := by
  refine s_goto (tgt := 46) hJ d_60_42 rfl ?_
  refine s_lstore_n hJ d_60_46 (Nat.le_of_ble_eq_true rfl) ?_
  refine s_iinc (v := 1) hJ d_60_47 rfl (by decide) ?_
  refine s_goto (tgt := 5) hJ d_60_50 rfl ?_
  exact h0
-- ReelOfBoxesModel.sizeOf(II)J : method 61
theorem d_61_0 : decode c_61 0 = .ok (.aload_n 0, 1) := by decide +kernel
theorem d_61_1 : decode c_61 1 = .ok (.aload_n 0, 1) := by decide +kernel
theorem d_61_2 : decode c_61 2 = .ok (.getfield 42, 3) := by decide +kernel
theorem d_61_5 : decode c_61 5 = .ok (.iconst (4), 1) := by decide +kernel
theorem d_61_6 : decode c_61 6 = .ok (.iload_n 1, 1) := by decide +kernel
theorem d_61_7 : decode c_61 7 = .ok (.imul, 1) := by decide +kernel
theorem d_61_8 : decode c_61 8 = .ok (.iconst (2), 1) := by decide +kernel
theorem d_61_9 : decode c_61 9 = .ok (.iadd, 1) := by decide +kernel
theorem d_61_10 : decode c_61 10 = .ok (.iaload, 1) := by decide +kernel
theorem d_61_11 : decode c_61 11 = .ok (.iconst (4), 1) := by decide +kernel
theorem d_61_12 : decode c_61 12 = .ok (.iadd, 1) := by decide +kernel
theorem d_61_13 : decode c_61 13 = .ok (.iconst (4), 1) := by decide +kernel
theorem d_61_14 : decode c_61 14 = .ok (.invokevirtual 139, 3) := by decide +kernel
theorem d_61_17 : decode c_61 17 = .ok (.lstore_n 3, 1) := by decide +kernel
theorem d_61_18 : decode c_61 18 = .ok (.lload_n 3, 1) := by decide +kernel
theorem d_61_19 : decode c_61 19 = .ok (.lconst 0, 1) := by decide +kernel
theorem d_61_20 : decode c_61 20 = .ok (.lcmp, 1) := by decide +kernel
theorem d_61_21 : decode c_61 21 = .ok (.ifCond .eq (7), 3) := by decide +kernel
theorem d_61_24 : decode c_61 24 = .ok (.lload_n 3, 1) := by decide +kernel
theorem d_61_25 : decode c_61 25 = .ok (.goto (11), 3) := by decide +kernel
theorem d_61_28 : decode c_61 28 = .ok (.aload_n 0, 1) := by decide +kernel
theorem d_61_29 : decode c_61 29 = .ok (.iload_n 1, 1) := by decide +kernel
theorem d_61_30 : decode c_61 30 = .ok (.iconst (2), 1) := by decide +kernel
theorem d_61_31 : decode c_61 31 = .ok (.iload_n 2, 1) := by decide +kernel
theorem d_61_32 : decode c_61 32 = .ok (.iconst (0), 1) := by decide +kernel
theorem d_61_33 : decode c_61 33 = .ok (.invokevirtual 207, 3) := by decide +kernel
theorem d_61_36 : decode c_61 36 = .ok (.lreturn, 1) := by decide +kernel
set_option maxRecDepth 4000 in
theorem b_61_0 {mc ms : Nat} {X : Option (Nat × (Nat → Int32))} {T : aj_Tt} {Q : aj_Q} {J : aj_J} (hJ : aj_Cl 1 c_61 (some .long) false mc ms X T Q J) {o0 : Nat} {x1 : Int32} {x2 : Int32} {q0 : Nat} {nk1 : Nat} {Z : aj_Z} {I : aj_I} {G : aj_G} {C : Nat × Nat} (k0 : Z.2.1 o0 = some (.inl 1)) (r0 : Z.2.2 o0 18 = .ref q0) (k1 : Z.2.1 q0 = some (.inr (0, nk1))) (h0 : vp_in ((4 * x1) + 2) nk1) (h1 : T 0 0 41 [.ref o0, .int ((I q0 (Int32.toNatClampNeg ((4 * x1) + 2))) + 4), .int 4] Z I G (fun r Z1 I1 G1 => J 17 [some (.ref o0), some (.int x1), some (.int x2), none, none] (r.toList ++ []) Z1 I1 G1 C)) : J 0 [some (.ref o0), some (.int x1), some (.int x2), none, none] [] Z I G C := by
  refine s_aload_n hJ d_61_0 rfl ?_
  refine s_aload_n hJ d_61_1 rfl ?_
  refine s_getr hJ lf_1_42 rfl d_61_2 k0 r0 ?_
  refine s_iconst_4 hJ d_61_5 ?_
  refine s_iload_n hJ d_61_6 rfl ?_
  refine s_imul hJ d_61_7 ?_
  refine s_iconst_2 hJ d_61_8 ?_
  refine s_iadd hJ d_61_9 ?_
  refine s_iald hJ d_61_10 k1 (h0) ?_
  refine s_iconst_4 hJ d_61_11 ?_
  refine s_iadd hJ d_61_12 ?_
  refine s_iconst_4 hJ d_61_13 ?_
  exact s_V2 hJ lm_1_139 d_61_14 (Nat.le_of_ble_eq_true rfl) k0 (h1)
set_option maxRecDepth 4000 in
theorem b_61_17 {mc ms : Nat} {X : Option (Nat × (Nat → Int32))} {T : aj_Tt} {Q : aj_Q} {J : aj_J} (hJ : aj_Cl 1 c_61 (some .long) false mc ms X T Q J) {o0 : Nat} {x1 : Int32} {x2 : Int32} {w3 : Option Value} {w4 : Option Value} {s0 : Int64} {Z : aj_Z} {I : aj_I} {G : aj_G} {C : Nat × Nat} (k0 : Z.2.1 o0 = some (.inl 1)) (h0 : s0 = 0 → T 0 0 55 [.ref o0, .int x1, .int 2, .int x2, .int 0] Z I G (fun r Z1 I1 G1 => J 36 [some (.ref o0), some (.int x1), some (.int x2), some (.long s0), none] (r.toList ++ []) Z1 I1 G1 C)) (h1 : ¬ s0 = 0 → J 36 [some (.ref o0), some (.int x1), some (.int x2), some (.long s0), none] [.long s0] Z I G C) : J 17 [some (.ref o0), some (.int x1), some (.int x2), w3, w4] [.long s0] Z I G C := by
  refine s_lstore_n hJ d_61_17 (Nat.le_of_ble_eq_true rfl) ?_
  refine s_lload_n hJ d_61_18 rfl ?_
  refine s_lconst_0 hJ d_61_19 ?_
  refine s_lif_eq (tgt := 28) hJ d_61_20 d_61_21 rfl (fun c0 => ?_) (fun c0 => ?_)
  · skip
    refine s_aload_n hJ d_61_28 rfl ?_
    refine s_iload_n hJ d_61_29 rfl ?_
    refine s_iconst_2 hJ d_61_30 ?_
    refine s_iload_n hJ d_61_31 rfl ?_
    refine s_iconst_0 hJ d_61_32 ?_
    exact s_V4 hJ lm_1_207 d_61_33 (Nat.le_of_ble_eq_true rfl) k0 (h0 c0)
  · skip
    refine s_lload_n hJ d_61_24 rfl ?_
    refine s_goto (tgt := 36) hJ d_61_25 rfl ?_
    exact h1 c0
set_option maxRecDepth 4000 in
theorem b_61_36 {mc ms : Nat} {X : Option (Nat × (Nat → Int32))} {T : aj_Tt} {Q : aj_Q} {J : aj_J} (hJ : aj_Cl 1 c_61 (some .long) false mc ms X T Q J) {w0 : Option Value} {w1 : Option Value} {w2 : Option Value} {w3 : Option Value} {w4 : Option Value} {s0 : Int64} {Z : aj_Z} {I : aj_I} {G : aj_G} {C : Nat × Nat} (h0 : Q (some (.long s0)) Z I G) : J 36 [w0, w1, w2, w3, w4] [.long s0] Z I G C := by
  exact s_lret hJ d_61_36 rfl (h0)
-- ReelOfBoxesModel.agrees(I)Z : method 62
theorem d_62_0 : decode c_62 0 = .ok (.aload_n 0, 1) := by decide +kernel
theorem d_62_1 : decode c_62 1 = .ok (.iload_n 1, 1) := by decide +kernel
theorem d_62_2 : decode c_62 2 = .ok (.iconst (2), 1) := by decide +kernel
theorem d_62_3 : decode c_62 3 = .ok (.invokevirtual 196, 3) := by decide +kernel
theorem d_62_6 : decode c_62 6 = .ok (.lstore_n 2, 1) := by decide +kernel
theorem d_62_7 : decode c_62 7 = .ok (.aload_n 0, 1) := by decide +kernel
theorem d_62_8 : decode c_62 8 = .ok (.iload_n 1, 1) := by decide +kernel
theorem d_62_9 : decode c_62 9 = .ok (.iconst (3), 1) := by decide +kernel
theorem d_62_10 : decode c_62 10 = .ok (.invokevirtual 196, 3) := by decide +kernel
theorem d_62_13 : decode c_62 13 = .ok (.lstore 4, 2) := by decide +kernel
theorem d_62_15 : decode c_62 15 = .ok (.lconst 0, 1) := by decide +kernel
theorem d_62_16 : decode c_62 16 = .ok (.lstore 6, 2) := by decide +kernel
theorem d_62_18 : decode c_62 18 = .ok (.iconst (0), 1) := by decide +kernel
theorem d_62_19 : decode c_62 19 = .ok (.istore 8, 2) := by decide +kernel
theorem d_62_21 : decode c_62 21 = .ok (.iload 8, 2) := by decide +kernel
theorem d_62_23 : decode c_62 23 = .ok (.i2l, 1) := by decide +kernel
theorem d_62_24 : decode c_62 24 = .ok (.aload_n 0, 1) := by decide +kernel
theorem d_62_25 : decode c_62 25 = .ok (.iload_n 1, 1) := by decide +kernel
theorem d_62_26 : decode c_62 26 = .ok (.iconst (0), 1) := by decide +kernel
theorem d_62_27 : decode c_62 27 = .ok (.invokevirtual 199, 3) := by decide +kernel
theorem d_62_30 : decode c_62 30 = .ok (.lcmp, 1) := by decide +kernel
theorem d_62_31 : decode c_62 31 = .ok (.ifCond .ge (23), 3) := by decide +kernel
theorem d_62_34 : decode c_62 34 = .ok (.lload 6, 2) := by decide +kernel
theorem d_62_36 : decode c_62 36 = .ok (.aload_n 0, 1) := by decide +kernel
theorem d_62_37 : decode c_62 37 = .ok (.iload_n 1, 1) := by decide +kernel
theorem d_62_38 : decode c_62 38 = .ok (.iconst (0), 1) := by decide +kernel
theorem d_62_39 : decode c_62 39 = .ok (.iload 8, 2) := by decide +kernel
theorem d_62_41 : decode c_62 41 = .ok (.iconst (0), 1) := by decide +kernel
theorem d_62_42 : decode c_62 42 = .ok (.invokevirtual 207, 3) := by decide +kernel
theorem d_62_45 : decode c_62 45 = .ok (.ladd, 1) := by decide +kernel
theorem d_62_46 : decode c_62 46 = .ok (.lstore 6, 2) := by decide +kernel
theorem d_62_48 : decode c_62 48 = .ok (.iinc 8 (1), 3) := by decide +kernel
theorem d_62_51 : decode c_62 51 = .ok (.goto (-30), 3) := by decide +kernel
theorem d_62_54 : decode c_62 54 = .ok (.lload 6, 2) := by decide +kernel
theorem d_62_56 : decode c_62 56 = .ok (.lload_n 2, 1) := by decide +kernel
theorem d_62_57 : decode c_62 57 = .ok (.lcmp, 1) := by decide +kernel
theorem d_62_58 : decode c_62 58 = .ok (.ifCond .ne (38), 3) := by decide +kernel
theorem d_62_61 : decode c_62 61 = .ok (.lload_n 2, 1) := by decide +kernel
theorem d_62_62 : decode c_62 62 = .ok (.ldc2_w 225, 3) := by decide +kernel
theorem d_62_65 : decode c_62 65 = .ok (.lcmp, 1) := by decide +kernel
theorem d_62_66 : decode c_62 66 = .ok (.ifCond .gt (30), 3) := by decide +kernel
theorem d_62_69 : decode c_62 69 = .ok (.lload 4, 2) := by decide +kernel
theorem d_62_71 : decode c_62 71 = .ok (.ldc2_w 225, 3) := by decide +kernel
theorem d_62_74 : decode c_62 74 = .ok (.lcmp, 1) := by decide +kernel
theorem d_62_75 : decode c_62 75 = .ok (.ifCond .gt (21), 3) := by decide +kernel
theorem d_62_78 : decode c_62 78 = .ok (.lload 4, 2) := by decide +kernel
theorem d_62_80 : decode c_62 80 = .ok (.lconst 0, 1) := by decide +kernel
theorem d_62_81 : decode c_62 81 = .ok (.lcmp, 1) := by decide +kernel
theorem d_62_82 : decode c_62 82 = .ok (.ifCond .le (16), 3) := by decide +kernel
theorem d_62_85 : decode c_62 85 = .ok (.aload_n 0, 1) := by decide +kernel
theorem d_62_86 : decode c_62 86 = .ok (.iload_n 1, 1) := by decide +kernel
theorem d_62_87 : decode c_62 87 = .ok (.iconst (1), 1) := by decide +kernel
theorem d_62_88 : decode c_62 88 = .ok (.invokevirtual 199, 3) := by decide +kernel
theorem d_62_91 : decode c_62 91 = .ok (.lconst 0, 1) := by decide +kernel
theorem d_62_92 : decode c_62 92 = .ok (.lcmp, 1) := by decide +kernel
theorem d_62_93 : decode c_62 93 = .ok (.ifCond .ne (5), 3) := by decide +kernel
theorem d_62_96 : decode c_62 96 = .ok (.iconst (0), 1) := by decide +kernel
theorem d_62_97 : decode c_62 97 = .ok (.ireturn, 1) := by decide +kernel
theorem d_62_98 : decode c_62 98 = .ok (.iconst (1), 1) := by decide +kernel
theorem d_62_99 : decode c_62 99 = .ok (.istore 8, 2) := by decide +kernel
theorem d_62_101 : decode c_62 101 = .ok (.iconst (0), 1) := by decide +kernel
theorem d_62_102 : decode c_62 102 = .ok (.istore 9, 2) := by decide +kernel
theorem d_62_104 : decode c_62 104 = .ok (.iload 9, 2) := by decide +kernel
theorem d_62_106 : decode c_62 106 = .ok (.i2l, 1) := by decide +kernel
theorem d_62_107 : decode c_62 107 = .ok (.lload_n 2, 1) := by decide +kernel
theorem d_62_108 : decode c_62 108 = .ok (.lcmp, 1) := by decide +kernel
theorem d_62_109 : decode c_62 109 = .ok (.ifCond .ge (35), 3) := by decide +kernel
theorem d_62_112 : decode c_62 112 = .ok (.iload 8, 2) := by decide +kernel
theorem d_62_114 : decode c_62 114 = .ok (.ifCond .eq (21), 3) := by decide +kernel
theorem d_62_117 : decode c_62 117 = .ok (.aload_n 0, 1) := by decide +kernel
theorem d_62_118 : decode c_62 118 = .ok (.iload_n 1, 1) := by decide +kernel
theorem d_62_119 : decode c_62 119 = .ok (.iload 9, 2) := by decide +kernel
theorem d_62_121 : decode c_62 121 = .ok (.invokevirtual 227, 3) := by decide +kernel
theorem d_62_124 : decode c_62 124 = .ok (.ldc2_w 230, 3) := by decide +kernel
theorem d_62_127 : decode c_62 127 = .ok (.lcmp, 1) := by decide +kernel
theorem d_62_128 : decode c_62 128 = .ok (.ifCond .ge (7), 3) := by decide +kernel
theorem d_62_131 : decode c_62 131 = .ok (.iconst (1), 1) := by decide +kernel
theorem d_62_132 : decode c_62 132 = .ok (.goto (4), 3) := by decide +kernel
theorem d_62_135 : decode c_62 135 = .ok (.iconst (0), 1) := by decide +kernel
theorem d_62_136 : decode c_62 136 = .ok (.istore 8, 2) := by decide +kernel
theorem d_62_138 : decode c_62 138 = .ok (.iinc 9 (1), 3) := by decide +kernel
theorem d_62_141 : decode c_62 141 = .ok (.goto (-37), 3) := by decide +kernel
theorem d_62_144 : decode c_62 144 = .ok (.iconst (0), 1) := by decide +kernel
theorem d_62_145 : decode c_62 145 = .ok (.istore 9, 2) := by decide +kernel
theorem d_62_147 : decode c_62 147 = .ok (.iload 9, 2) := by decide +kernel
theorem d_62_149 : decode c_62 149 = .ok (.i2l, 1) := by decide +kernel
theorem d_62_150 : decode c_62 150 = .ok (.aload_n 0, 1) := by decide +kernel
theorem d_62_151 : decode c_62 151 = .ok (.iload_n 1, 1) := by decide +kernel
theorem d_62_152 : decode c_62 152 = .ok (.iconst (1), 1) := by decide +kernel
theorem d_62_153 : decode c_62 153 = .ok (.invokevirtual 199, 3) := by decide +kernel
theorem d_62_156 : decode c_62 156 = .ok (.lcmp, 1) := by decide +kernel
theorem d_62_157 : decode c_62 157 = .ok (.ifCond .ge (36), 3) := by decide +kernel
theorem d_62_160 : decode c_62 160 = .ok (.iload 8, 2) := by decide +kernel
theorem d_62_162 : decode c_62 162 = .ok (.ifCond .eq (22), 3) := by decide +kernel
theorem d_62_165 : decode c_62 165 = .ok (.aload_n 0, 1) := by decide +kernel
theorem d_62_166 : decode c_62 166 = .ok (.iload_n 1, 1) := by decide +kernel
theorem d_62_167 : decode c_62 167 = .ok (.iconst (1), 1) := by decide +kernel
theorem d_62_168 : decode c_62 168 = .ok (.iload 9, 2) := by decide +kernel
theorem d_62_170 : decode c_62 170 = .ok (.iconst (0), 1) := by decide +kernel
theorem d_62_171 : decode c_62 171 = .ok (.invokevirtual 207, 3) := by decide +kernel
theorem d_62_174 : decode c_62 174 = .ok (.lload 4, 2) := by decide +kernel
theorem d_62_176 : decode c_62 176 = .ok (.lcmp, 1) := by decide +kernel
theorem d_62_177 : decode c_62 177 = .ok (.ifCond .gt (7), 3) := by decide +kernel
theorem d_62_180 : decode c_62 180 = .ok (.iconst (1), 1) := by decide +kernel
theorem d_62_181 : decode c_62 181 = .ok (.goto (4), 3) := by decide +kernel
theorem d_62_184 : decode c_62 184 = .ok (.iconst (0), 1) := by decide +kernel
theorem d_62_185 : decode c_62 185 = .ok (.istore 8, 2) := by decide +kernel
theorem d_62_187 : decode c_62 187 = .ok (.iinc 9 (1), 3) := by decide +kernel
theorem d_62_190 : decode c_62 190 = .ok (.goto (-43), 3) := by decide +kernel
theorem d_62_193 : decode c_62 193 = .ok (.lconst 0, 1) := by decide +kernel
theorem d_62_194 : decode c_62 194 = .ok (.lstore 9, 2) := by decide +kernel
theorem d_62_196 : decode c_62 196 = .ok (.iconst (1), 1) := by decide +kernel
theorem d_62_197 : decode c_62 197 = .ok (.istore 11, 2) := by decide +kernel
theorem d_62_199 : decode c_62 199 = .ok (.iload 11, 2) := by decide +kernel
theorem d_62_201 : decode c_62 201 = .ok (.i2l, 1) := by decide +kernel
theorem d_62_202 : decode c_62 202 = .ok (.lload 4, 2) := by decide +kernel
theorem d_62_204 : decode c_62 204 = .ok (.lcmp, 1) := by decide +kernel
theorem d_62_205 : decode c_62 205 = .ok (.ifCond .gt (21), 3) := by decide +kernel
theorem d_62_208 : decode c_62 208 = .ok (.lload 9, 2) := by decide +kernel
theorem d_62_210 : decode c_62 210 = .ok (.aload_n 0, 1) := by decide +kernel
theorem d_62_211 : decode c_62 211 = .ok (.iload_n 1, 1) := by decide +kernel
theorem d_62_212 : decode c_62 212 = .ok (.iload 11, 2) := by decide +kernel
theorem d_62_214 : decode c_62 214 = .ok (.invokevirtual 232, 3) := by decide +kernel
theorem d_62_217 : decode c_62 217 = .ok (.ladd, 1) := by decide +kernel
theorem d_62_218 : decode c_62 218 = .ok (.lstore 9, 2) := by decide +kernel
theorem d_62_220 : decode c_62 220 = .ok (.iinc 11 (1), 3) := by decide +kernel
theorem d_62_223 : decode c_62 223 = .ok (.goto (-24), 3) := by decide +kernel
theorem d_62_226 : decode c_62 226 = .ok (.iload 8, 2) := by decide +kernel
theorem d_62_228 : decode c_62 228 = .ok (.ifCond .eq (14), 3) := by decide +kernel
theorem d_62_231 : decode c_62 231 = .ok (.lload 9, 2) := by decide +kernel
theorem d_62_233 : decode c_62 233 = .ok (.lload_n 2, 1) := by decide +kernel
theorem d_62_234 : decode c_62 234 = .ok (.lcmp, 1) := by decide +kernel
theorem d_62_235 : decode c_62 235 = .ok (.ifCond .ne (7), 3) := by decide +kernel
theorem d_62_238 : decode c_62 238 = .ok (.iconst (1), 1) := by decide +kernel
theorem d_62_239 : decode c_62 239 = .ok (.goto (4), 3) := by decide +kernel
theorem d_62_242 : decode c_62 242 = .ok (.iconst (0), 1) := by decide +kernel
theorem d_62_243 : decode c_62 243 = .ok (.ireturn, 1) := by decide +kernel
set_option maxRecDepth 4000 in
theorem b_62_0 {mc ms : Nat} {X : Option (Nat × (Nat → Int32))} {T : aj_Tt} {Q : aj_Q} {J : aj_J} (hJ : aj_Cl 1 c_62 (some .boolean) false mc ms X T Q J) {o0 : Nat} {x1 : Int32} {Z : aj_Z} {I : aj_I} {G : aj_G} {C : Nat × Nat} (k0 : Z.2.1 o0 = some (.inl 1)) (h0 : T 0 0 52 [.ref o0, .int x1, .int 2] Z I G (fun r Z1 I1 G1 => J 6 [some (.ref o0), some (.int x1), none, none, none, none, none, none, none, none, none, none] (r.toList ++ []) Z1 I1 G1 C)) : J 0 [some (.ref o0), some (.int x1), none, none, none, none, none, none, none, none, none, none] [] Z I G C := by
  refine s_aload_n hJ d_62_0 rfl ?_
  refine s_iload_n hJ d_62_1 rfl ?_
  refine s_iconst_2 hJ d_62_2 ?_
  exact s_V2 hJ lm_1_196 d_62_3 (Nat.le_of_ble_eq_true rfl) k0 (h0)
set_option maxRecDepth 4000 in
theorem b_62_6 {mc ms : Nat} {X : Option (Nat × (Nat → Int32))} {T : aj_Tt} {Q : aj_Q} {J : aj_J} (hJ : aj_Cl 1 c_62 (some .boolean) false mc ms X T Q J) {o0 : Nat} {x1 : Int32} {w2 : Option Value} {w3 : Option Value} {w4 : Option Value} {w5 : Option Value} {w6 : Option Value} {w7 : Option Value} {w8 : Option Value} {w9 : Option Value} {w10 : Option Value} {w11 : Option Value} {s0 : Int64} {Z : aj_Z} {I : aj_I} {G : aj_G} {C : Nat × Nat} (k0 : Z.2.1 o0 = some (.inl 1)) (h0 : T 0 0 52 [.ref o0, .int x1, .int 3] Z I G (fun r Z1 I1 G1 => J 13 [some (.ref o0), some (.int x1), some (.long s0), none, w4, w5, w6, w7, w8, w9, w10, w11] (r.toList ++ []) Z1 I1 G1 C)) : J 6 [some (.ref o0), some (.int x1), w2, w3, w4, w5, w6, w7, w8, w9, w10, w11] [.long s0] Z I G C := by
  refine s_lstore_n hJ d_62_6 (Nat.le_of_ble_eq_true rfl) ?_
  refine s_aload_n hJ d_62_7 rfl ?_
  refine s_iload_n hJ d_62_8 rfl ?_
  refine s_iconst_3 hJ d_62_9 ?_
  exact s_V2 hJ lm_1_196 d_62_10 (Nat.le_of_ble_eq_true rfl) k0 (h0)
set_option maxRecDepth 4000 in
theorem b_62_13 {mc ms : Nat} {X : Option (Nat × (Nat → Int32))} {T : aj_Tt} {Q : aj_Q} {J : aj_J} (hJ : aj_Cl 1 c_62 (some .boolean) false mc ms X T Q J) {o0 : Nat} {x1 : Int32} {x2 : Int64} {w3 : Option Value} {w4 : Option Value} {w5 : Option Value} {w6 : Option Value} {w7 : Option Value} {w8 : Option Value} {w9 : Option Value} {w10 : Option Value} {w11 : Option Value} {s0 : Int64} {Z : aj_Z} {I : aj_I} {G : aj_G} {C : Nat × Nat} (h0 : J 21 [some (.ref o0), some (.int x1), some (.long x2), (aj_clr w3), some (.long s0), none, some (.long 0), none, some (.int 0), w9, w10, w11] [] Z I G C) : J 13 [some (.ref o0), some (.int x1), some (.long x2), w3, w4, w5, w6, w7, w8, w9, w10, w11] [.long s0] Z I G C := by
  refine s_lstore hJ d_62_13 (Nat.le_of_ble_eq_true rfl) ?_
  refine s_lconst_0 hJ d_62_15 ?_
  refine s_lstore hJ d_62_16 (Nat.le_of_ble_eq_true rfl) ?_
  refine s_iconst_0 hJ d_62_18 ?_
  refine s_istore hJ d_62_19 (Nat.le_of_ble_eq_true rfl) ?_
  exact h0
set_option maxRecDepth 4000 in
theorem b_62_21 {mc ms : Nat} {X : Option (Nat × (Nat → Int32))} {T : aj_Tt} {Q : aj_Q} {J : aj_J} (hJ : aj_Cl 1 c_62 (some .boolean) false mc ms X T Q J) {o0 : Nat} {x1 : Int32} {x2 : Int64} {w3 : Option Value} {x4 : Int64} {w5 : Option Value} {x6 : Int64} {w7 : Option Value} {x8 : Int32} {w9 : Option Value} {w10 : Option Value} {w11 : Option Value} {Z : aj_Z} {I : aj_I} {G : aj_G} {C : Nat × Nat} (k0 : Z.2.1 o0 = some (.inl 1)) (h0 : T 0 0 53 [.ref o0, .int x1, .int 0] Z I G (fun r Z1 I1 G1 => J 30 [some (.ref o0), some (.int x1), some (.long x2), w3, some (.long x4), w5, some (.long x6), w7, some (.int x8), w9, w10, w11] (r.toList ++ [.long (Int32.toInt64 x8)]) Z1 I1 G1 C)) : J 21 [some (.ref o0), some (.int x1), some (.long x2), w3, some (.long x4), w5, some (.long x6), w7, some (.int x8), w9, w10, w11] [] Z I G C := by
  refine s_iload hJ d_62_21 rfl ?_
  refine s_i2l hJ d_62_23 ?_
  refine s_aload_n hJ d_62_24 rfl ?_
  refine s_iload_n hJ d_62_25 rfl ?_
  refine s_iconst_0 hJ d_62_26 ?_
  exact s_V2 hJ lm_1_199 d_62_27 (Nat.le_of_ble_eq_true rfl) k0 (h0)
set_option maxRecDepth 4000 in
theorem b_62_30 {mc ms : Nat} {X : Option (Nat × (Nat → Int32))} {T : aj_Tt} {Q : aj_Q} {J : aj_J} (hJ : aj_Cl 1 c_62 (some .boolean) false mc ms X T Q J) {o0 : Nat} {x1 : Int32} {x2 : Int64} {w3 : Option Value} {x4 : Int64} {w5 : Option Value} {x6 : Int64} {w7 : Option Value} {x8 : Int32} {w9 : Option Value} {w10 : Option Value} {w11 : Option Value} {s0 : Int64} {s1 : Int64} {Z : aj_Z} {I : aj_I} {G : aj_G} {C : Nat × Nat} (h0 : s0 ≤ s1 → ¬ x6 = x2 → Q (some (.int 0)) Z I G) (h1 : s0 ≤ s1 → x6 = x2 → 16 < x2 → Q (some (.int 0)) Z I G) (h2 : s0 ≤ s1 → x6 = x2 → ¬ 16 < x2 → 16 < x4 → Q (some (.int 0)) Z I G) (h3 : s0 ≤ s1 → x6 = x2 → ¬ 16 < x2 → ¬ 16 < x4 → x4 ≤ 0 → J 104 [some (.ref o0), some (.int x1), some (.long x2), w3, some (.long x4), w5, some (.long x6), (aj_clr w7), some (.int 1), some (.int 0), w10, w11] [] Z I G C) (k0 : Z.2.1 o0 = some (.inl 1)) (h4 : s0 ≤ s1 → x6 = x2 → ¬ 16 < x2 → ¬ 16 < x4 → ¬ x4 ≤ 0 → T 0 0 53 [.ref o0, .int x1, .int 1] Z I G (fun r Z1 I1 G1 => J 91 [some (.ref o0), some (.int x1), some (.long x2), w3, some (.long x4), w5, some (.long x6), w7, some (.int x8), w9, w10, w11] (r.toList ++ []) Z1 I1 G1 C)) (h5 : ¬ s0 ≤ s1 → T 0 0 55 [.ref o0, .int x1, .int 0, .int x8, .int 0] Z I G (fun r Z1 I1 G1 => J 45 [some (.ref o0), some (.int x1), some (.long x2), w3, some (.long x4), w5, some (.long x6), w7, some (.int x8), w9, w10, w11] (r.toList ++ [.long x6]) Z1 I1 G1 C)) : J 30 [some (.ref o0), some (.int x1), some (.long x2), w3, some (.long x4), w5, some (.long x6), w7, some (.int x8), w9, w10, w11] [.long s0, .long s1] Z I G C := by
  refine s_lif_ge (tgt := 54) hJ d_62_30 d_62_31 rfl (fun c0 => ?_) (fun c0 => ?_)
  · skip
    refine s_lload hJ d_62_54 rfl ?_
    refine s_lload_n hJ d_62_56 rfl ?_
    refine s_lif_ne (tgt := 96) hJ d_62_57 d_62_58 rfl (fun c1 => ?_) (fun c1 => ?_)
    · skip
      refine s_iconst_0 hJ d_62_96 ?_
      exact s_iret hJ d_62_97 rfl rfl (h0 c0 c1)
    · skip
      refine s_lload_n hJ d_62_61 rfl ?_
      refine s_ldc2 hJ ll_1_225 d_62_62 ?_
      refine s_lif_gt (tgt := 96) hJ d_62_65 d_62_66 rfl (fun c2 => ?_) (fun c2 => ?_)
      · skip
        refine s_iconst_0 hJ d_62_96 ?_
        exact s_iret hJ d_62_97 rfl rfl (h1 c0 c1 c2)
      · skip
        refine s_lload hJ d_62_69 rfl ?_
        refine s_ldc2 hJ ll_1_225 d_62_71 ?_
        refine s_lif_gt (tgt := 96) hJ d_62_74 d_62_75 rfl (fun c3 => ?_) (fun c3 => ?_)
        · skip
          refine s_iconst_0 hJ d_62_96 ?_
          exact s_iret hJ d_62_97 rfl rfl (h2 c0 c1 c2 c3)
        · skip
          refine s_lload hJ d_62_78 rfl ?_
          refine s_lconst_0 hJ d_62_80 ?_
          refine s_lif_le (tgt := 98) hJ d_62_81 d_62_82 rfl (fun c4 => ?_) (fun c4 => ?_)
          · skip
            refine s_iconst_1 hJ d_62_98 ?_
            refine s_istore hJ d_62_99 (Nat.le_of_ble_eq_true rfl) ?_
            refine s_iconst_0 hJ d_62_101 ?_
            refine s_istore hJ d_62_102 (Nat.le_of_ble_eq_true rfl) ?_
            exact h3 c0 c1 c2 c3 c4
          · skip
            refine s_aload_n hJ d_62_85 rfl ?_
            refine s_iload_n hJ d_62_86 rfl ?_
            refine s_iconst_1 hJ d_62_87 ?_
            exact s_V2 hJ lm_1_199 d_62_88 (Nat.le_of_ble_eq_true rfl) k0 (h4 c0 c1 c2 c3 c4)
  · skip
    refine s_lload hJ d_62_34 rfl ?_
    refine s_aload_n hJ d_62_36 rfl ?_
    refine s_iload_n hJ d_62_37 rfl ?_
    refine s_iconst_0 hJ d_62_38 ?_
    refine s_iload hJ d_62_39 rfl ?_
    refine s_iconst_0 hJ d_62_41 ?_
    exact s_V4 hJ lm_1_207 d_62_42 (Nat.le_of_ble_eq_true rfl) k0 (h5 c0)
set_option maxRecDepth 4000 in
theorem b_62_45 {mc ms : Nat} {X : Option (Nat × (Nat → Int32))} {T : aj_Tt} {Q : aj_Q} {J : aj_J} (hJ : aj_Cl 1 c_62 (some .boolean) false mc ms X T Q J) {o0 : Nat} {x1 : Int32} {x2 : Int64} {w3 : Option Value} {x4 : Int64} {w5 : Option Value} {w6 : Option Value} {w7 : Option Value} {x8 : Int32} {w9 : Option Value} {w10 : Option Value} {w11 : Option Value} {s0 : Int64} {s1 : Int64} {Z : aj_Z} {I : aj_I} {G : aj_G} {C : Nat × Nat} (h0 : J 21 [some (.ref o0), some (.int x1), some (.long x2), w3, some (.long x4), (aj_clr w5), some (.long (s1 + s0)), none, some (.int (x8 + 1)), w9, w10, w11] [] Z I G C) : J 45 [some (.ref o0), some (.int x1), some (.long x2), w3, some (.long x4), w5, w6, w7, some (.int x8), w9, w10, w11] [.long s0, .long s1] Z I G C := by
  refine s_ladd hJ d_62_45 ?_
  refine s_lstore hJ d_62_46 (Nat.le_of_ble_eq_true rfl) ?_
  refine s_iinc (v := 1) hJ d_62_48 rfl (by decide) ?_
  refine s_goto (tgt := 21) hJ d_62_51 rfl ?_
  exact h0
set_option maxRecDepth 4000 in
theorem b_62_91 {mc ms : Nat} {X : Option (Nat × (Nat → Int32))} {T : aj_Tt} {Q : aj_Q} {J : aj_J} (hJ : aj_Cl 1 c_62 (some .boolean) false mc ms X T Q J) {o0 : Nat} {x1 : Int32} {x2 : Int64} {w3 : Option Value} {x4 : Int64} {w5 : Option Value} {w6 : Option Value} {w7 : Option Value} {w8 : Option Value} {w9 : Option Value} {w10 : Option Value} {w11 : Option Value} {s0 : Int64} {Z : aj_Z} {I : aj_I} {G : aj_G} {C : Nat × Nat} (h0 : ¬ s0 = 0 → J 104 [some (.ref o0), some (.int x1), some (.long x2), w3, some (.long x4), w5, w6, (aj_clr w7), some (.int 1), some (.int 0), w10, w11] [] Z I G C) (h1 : s0 = 0 → Q (some (.int 0)) Z I G) : J 91 [some (.ref o0), some (.int x1), some (.long x2), w3, some (.long x4), w5, w6, w7, w8, w9, w10, w11] [.long s0] Z I G C := by
  refine s_lconst_0 hJ d_62_91 ?_
  refine s_lif_ne (tgt := 98) hJ d_62_92 d_62_93 rfl (fun c0 => ?_) (fun c0 => ?_)
  · skip
    refine s_iconst_1 hJ d_62_98 ?_
    refine s_istore hJ d_62_99 (Nat.le_of_ble_eq_true rfl) ?_
    refine s_iconst_0 hJ d_62_101 ?_
    refine s_istore hJ d_62_102 (Nat.le_of_ble_eq_true rfl) ?_
    exact h0 c0
  · skip
    refine s_iconst_0 hJ d_62_96 ?_
    exact s_iret hJ d_62_97 rfl rfl (h1 c0)
set_option maxRecDepth 4000 in
theorem b_62_104 {mc ms : Nat} {X : Option (Nat × (Nat → Int32))} {T : aj_Tt} {Q : aj_Q} {J : aj_J} (hJ : aj_Cl 1 c_62 (some .boolean) false mc ms X T Q J) {o0 : Nat} {x1 : Int32} {x2 : Int64} {w3 : Option Value} {x4 : Int64} {w5 : Option Value} {w6 : Option Value} {w7 : Option Value} {x8 : Int32} {x9 : Int32} {w10 : Option Value} {w11 : Option Value} {Z : aj_Z} {I : aj_I} {G : aj_G} {C : Nat × Nat} (h0 : x2 ≤ (Int32.toInt64 x9) → J 147 [some (.ref o0), some (.int x1), some (.long x2), w3, some (.long x4), w5, w6, w7, some (.int x8), some (.int 0), w10, w11] [] Z I G C) (h1 : ¬ x2 ≤ (Int32.toInt64 x9) → x8 = 0 → J 104 [some (.ref o0), some (.int x1), some (.long x2), w3, some (.long x4), w5, w6, (aj_clr w7), some (.int 0), some (.int (x9 + 1)), w10, w11] [] Z I G C) (k0 : Z.2.1 o0 = some (.inl 1)) (h2 : ¬ x2 ≤ (Int32.toInt64 x9) → ¬ x8 = 0 → T 0 0 61 [.ref o0, .int x1, .int x9] Z I G (fun r Z1 I1 G1 => J 124 [some (.ref o0), some (.int x1), some (.long x2), w3, some (.long x4), w5, w6, w7, some (.int x8), some (.int x9), w10, w11] (r.toList ++ []) Z1 I1 G1 C)) : J 104 [some (.ref o0), some (.int x1), some (.long x2), w3, some (.long x4), w5, w6, w7, some (.int x8), some (.int x9), w10, w11] [] Z I G C := by
  refine s_iload hJ d_62_104 rfl ?_
  refine s_i2l hJ d_62_106 ?_
  refine s_lload_n hJ d_62_107 rfl ?_
  refine s_lif_ge (tgt := 144) hJ d_62_108 d_62_109 rfl (fun c0 => ?_) (fun c0 => ?_)
  · skip
    refine s_iconst_0 hJ d_62_144 ?_
    refine s_istore hJ d_62_145 (Nat.le_of_ble_eq_true rfl) ?_
    exact h0 c0
  · skip
    refine s_iload hJ d_62_112 rfl ?_
    refine s_if_eq (tgt := 135) hJ d_62_114 rfl (fun c1 => ?_) (fun c1 => ?_)
    · skip
      refine s_iconst_0 hJ d_62_135 ?_
      refine s_istore hJ d_62_136 (Nat.le_of_ble_eq_true rfl) ?_
      refine s_iinc (v := 1) hJ d_62_138 rfl (by decide) ?_
      refine s_goto (tgt := 104) hJ d_62_141 rfl ?_
      exact h1 c0 c1
    · skip
      refine s_aload_n hJ d_62_117 rfl ?_
      refine s_iload_n hJ d_62_118 rfl ?_
      refine s_iload hJ d_62_119 rfl ?_
      exact s_V2 hJ lm_1_227 d_62_121 (Nat.le_of_ble_eq_true rfl) k0 (h2 c0 c1)
set_option maxRecDepth 4000 in
theorem b_62_124 {mc ms : Nat} {X : Option (Nat × (Nat → Int32))} {T : aj_Tt} {Q : aj_Q} {J : aj_J} (hJ : aj_Cl 1 c_62 (some .boolean) false mc ms X T Q J) {o0 : Nat} {x1 : Int32} {x2 : Int64} {w3 : Option Value} {x4 : Int64} {w5 : Option Value} {w6 : Option Value} {w7 : Option Value} {w8 : Option Value} {x9 : Int32} {w10 : Option Value} {w11 : Option Value} {s0 : Int64} {Z : aj_Z} {I : aj_I} {G : aj_G} {C : Nat × Nat} (h0 : 9 ≤ s0 → J 104 [some (.ref o0), some (.int x1), some (.long x2), w3, some (.long x4), w5, w6, (aj_clr w7), some (.int 0), some (.int (x9 + 1)), w10, w11] [] Z I G C) (h1 : ¬ 9 ≤ s0 → J 104 [some (.ref o0), some (.int x1), some (.long x2), w3, some (.long x4), w5, w6, (aj_clr w7), some (.int 1), some (.int (x9 + 1)), w10, w11] [] Z I G C) : J 124 [some (.ref o0), some (.int x1), some (.long x2), w3, some (.long x4), w5, w6, w7, w8, some (.int x9), w10, w11] [.long s0] Z I G C := by
  refine s_ldc2 hJ ll_1_230 d_62_124 ?_
  refine s_lif_ge (tgt := 135) hJ d_62_127 d_62_128 rfl (fun c0 => ?_) (fun c0 => ?_)
  · skip
    refine s_iconst_0 hJ d_62_135 ?_
    refine s_istore hJ d_62_136 (Nat.le_of_ble_eq_true rfl) ?_
    refine s_iinc (v := 1) hJ d_62_138 rfl (by decide) ?_
    refine s_goto (tgt := 104) hJ d_62_141 rfl ?_
    exact h0 c0
  · skip
    refine s_iconst_1 hJ d_62_131 ?_
    refine s_goto (tgt := 136) hJ d_62_132 rfl ?_
    refine s_istore hJ d_62_136 (Nat.le_of_ble_eq_true rfl) ?_
    refine s_iinc (v := 1) hJ d_62_138 rfl (by decide) ?_
    refine s_goto (tgt := 104) hJ d_62_141 rfl ?_
    exact h1 c0
set_option maxRecDepth 4000 in
theorem b_62_147 {mc ms : Nat} {X : Option (Nat × (Nat → Int32))} {T : aj_Tt} {Q : aj_Q} {J : aj_J} (hJ : aj_Cl 1 c_62 (some .boolean) false mc ms X T Q J) {o0 : Nat} {x1 : Int32} {x2 : Int64} {w3 : Option Value} {x4 : Int64} {w5 : Option Value} {w6 : Option Value} {w7 : Option Value} {x8 : Int32} {x9 : Int32} {w10 : Option Value} {w11 : Option Value} {Z : aj_Z} {I : aj_I} {G : aj_G} {C : Nat × Nat} (k0 : Z.2.1 o0 = some (.inl 1)) (h0 : T 0 0 53 [.ref o0, .int x1, .int 1] Z I G (fun r Z1 I1 G1 => J 156 [some (.ref o0), some (.int x1), some (.long x2), w3, some (.long x4), w5, w6, w7, some (.int x8), some (.int x9), w10, w11] (r.toList ++ [.long (Int32.toInt64 x9)]) Z1 I1 G1 C)) : J 147 [some (.ref o0), some (.int x1), some (.long x2), w3, some (.long x4), w5, w6, w7, some (.int x8), some (.int x9), w10, w11] [] Z I G C := by
  refine s_iload hJ d_62_147 rfl ?_
  refine s_i2l hJ d_62_149 ?_
  refine s_aload_n hJ d_62_150 rfl ?_
  refine s_iload_n hJ d_62_151 rfl ?_
  refine s_iconst_1 hJ d_62_152 ?_
  exact s_V2 hJ lm_1_199 d_62_153 (Nat.le_of_ble_eq_true rfl) k0 (h0)
set_option maxRecDepth 4000 in
theorem b_62_156 {mc ms : Nat} {X : Option (Nat × (Nat → Int32))} {T : aj_Tt} {Q : aj_Q} {J : aj_J} (hJ : aj_Cl 1 c_62 (some .boolean) false mc ms X T Q J) {o0 : Nat} {x1 : Int32} {x2 : Int64} {w3 : Option Value} {x4 : Int64} {w5 : Option Value} {w6 : Option Value} {w7 : Option Value} {x8 : Int32} {x9 : Int32} {w10 : Option Value} {w11 : Option Value} {s0 : Int64} {s1 : Int64} {Z : aj_Z} {I : aj_I} {G : aj_G} {C : Nat × Nat} (h0 : s0 ≤ s1 → J 199 [some (.ref o0), some (.int x1), some (.long x2), w3, some (.long x4), w5, w6, w7, some (.int x8), some (.long 0), none, some (.int 1)] [] Z I G C) (h1 : ¬ s0 ≤ s1 → x8 = 0 → J 147 [some (.ref o0), some (.int x1), some (.long x2), w3, some (.long x4), w5, w6, (aj_clr w7), some (.int 0), some (.int (x9 + 1)), w10, w11] [] Z I G C) (k0 : Z.2.1 o0 = some (.inl 1)) (h2 : ¬ s0 ≤ s1 → ¬ x8 = 0 → T 0 0 55 [.ref o0, .int x1, .int 1, .int x9, .int 0] Z I G (fun r Z1 I1 G1 => J 174 [some (.ref o0), some (.int x1), some (.long x2), w3, some (.long x4), w5, w6, w7, some (.int x8), some (.int x9), w10, w11] (r.toList ++ []) Z1 I1 G1 C)) : J 156 [some (.ref o0), some (.int x1), some (.long x2), w3, some (.long x4), w5, w6, w7, some (.int x8), some (.int x9), w10, w11] [.long s0, .long s1] Z I G C := by
  refine s_lif_ge (tgt := 193) hJ d_62_156 d_62_157 rfl (fun c0 => ?_) (fun c0 => ?_)
  · skip
    refine s_lconst_0 hJ d_62_193 ?_
    refine s_lstore hJ d_62_194 (Nat.le_of_ble_eq_true rfl) ?_
    refine s_iconst_1 hJ d_62_196 ?_
    refine s_istore hJ d_62_197 (Nat.le_of_ble_eq_true rfl) ?_
    exact h0 c0
  · skip
    refine s_iload hJ d_62_160 rfl ?_
    refine s_if_eq (tgt := 184) hJ d_62_162 rfl (fun c1 => ?_) (fun c1 => ?_)
    · skip
      refine s_iconst_0 hJ d_62_184 ?_
      refine s_istore hJ d_62_185 (Nat.le_of_ble_eq_true rfl) ?_
      refine s_iinc (v := 1) hJ d_62_187 rfl (by decide) ?_
      refine s_goto (tgt := 147) hJ d_62_190 rfl ?_
      exact h1 c0 c1
    · skip
      refine s_aload_n hJ d_62_165 rfl ?_
      refine s_iload_n hJ d_62_166 rfl ?_
      refine s_iconst_1 hJ d_62_167 ?_
      refine s_iload hJ d_62_168 rfl ?_
      refine s_iconst_0 hJ d_62_170 ?_
      exact s_V4 hJ lm_1_207 d_62_171 (Nat.le_of_ble_eq_true rfl) k0 (h2 c0 c1)
set_option maxRecDepth 4000 in
theorem b_62_174 {mc ms : Nat} {X : Option (Nat × (Nat → Int32))} {T : aj_Tt} {Q : aj_Q} {J : aj_J} (hJ : aj_Cl 1 c_62 (some .boolean) false mc ms X T Q J) {o0 : Nat} {x1 : Int32} {x2 : Int64} {w3 : Option Value} {x4 : Int64} {w5 : Option Value} {w6 : Option Value} {w7 : Option Value} {w8 : Option Value} {x9 : Int32} {w10 : Option Value} {w11 : Option Value} {s0 : Int64} {Z : aj_Z} {I : aj_I} {G : aj_G} {C : Nat × Nat} (h0 : x4 < s0 → J 147 [some (.ref o0), some (.int x1), some (.long x2), w3, some (.long x4), w5, w6, (aj_clr w7), some (.int 0), some (.int (x9 + 1)), w10, w11] [] Z I G C) (h1 : ¬ x4 < s0 → J 147 [some (.ref o0), some (.int x1), some (.long x2), w3, some (.long x4), w5, w6, (aj_clr w7), some (.int 1), some (.int (x9 + 1)), w10, w11] [] Z I G C) : J 174 [some (.ref o0), some (.int x1), some (.long x2), w3, some (.long x4), w5, w6, w7, w8, some (.int x9), w10, w11] [.long s0] Z I G C := by
  refine s_lload hJ d_62_174 rfl ?_
  refine s_lif_gt (tgt := 184) hJ d_62_176 d_62_177 rfl (fun c0 => ?_) (fun c0 => ?_)
  · skip
    refine s_iconst_0 hJ d_62_184 ?_
    refine s_istore hJ d_62_185 (Nat.le_of_ble_eq_true rfl) ?_
    refine s_iinc (v := 1) hJ d_62_187 rfl (by decide) ?_
    refine s_goto (tgt := 147) hJ d_62_190 rfl ?_
    exact h0 c0
  · skip
    refine s_iconst_1 hJ d_62_180 ?_
    refine s_goto (tgt := 185) hJ d_62_181 rfl ?_
    refine s_istore hJ d_62_185 (Nat.le_of_ble_eq_true rfl) ?_
    refine s_iinc (v := 1) hJ d_62_187 rfl (by decide) ?_
    refine s_goto (tgt := 147) hJ d_62_190 rfl ?_
    exact h1 c0
set_option maxRecDepth 4000 in
theorem b_62_199 {mc ms : Nat} {X : Option (Nat × (Nat → Int32))} {T : aj_Tt} {Q : aj_Q} {J : aj_J} (hJ : aj_Cl 1 c_62 (some .boolean) false mc ms X T Q J) {o0 : Nat} {x1 : Int32} {x2 : Int64} {w3 : Option Value} {x4 : Int64} {w5 : Option Value} {w6 : Option Value} {w7 : Option Value} {x8 : Int32} {x9 : Int64} {w10 : Option Value} {x11 : Int32} {Z : aj_Z} {I : aj_I} {G : aj_G} {C : Nat × Nat} (h0 : x4 < (Int32.toInt64 x11) → x8 = 0 → Q (some (.int 0)) Z I G) (h1 : x4 < (Int32.toInt64 x11) → ¬ x8 = 0 → ¬ x9 = x2 → Q (some (.int 0)) Z I G) (h2 : x4 < (Int32.toInt64 x11) → ¬ x8 = 0 → x9 = x2 → Q (some (.int 1)) Z I G) (k0 : Z.2.1 o0 = some (.inl 1)) (h3 : ¬ x4 < (Int32.toInt64 x11) → T 0 0 60 [.ref o0, .int x1, .int x11] Z I G (fun r Z1 I1 G1 => J 217 [some (.ref o0), some (.int x1), some (.long x2), w3, some (.long x4), w5, w6, w7, some (.int x8), some (.long x9), w10, some (.int x11)] (r.toList ++ [.long x9]) Z1 I1 G1 C)) : J 199 [some (.ref o0), some (.int x1), some (.long x2), w3, some (.long x4), w5, w6, w7, some (.int x8), some (.long x9), w10, some (.int x11)] [] Z I G C := by
  refine s_iload hJ d_62_199 rfl ?_
  refine s_i2l hJ d_62_201 ?_
  refine s_lload hJ d_62_202 rfl ?_
  refine s_lif_gt (tgt := 226) hJ d_62_204 d_62_205 rfl (fun c0 => ?_) (fun c0 => ?_)
  · skip
    refine s_iload hJ d_62_226 rfl ?_
    refine s_if_eq (tgt := 242) hJ d_62_228 rfl (fun c1 => ?_) (fun c1 => ?_)
    · skip
      refine s_iconst_0 hJ d_62_242 ?_
      exact s_iret hJ d_62_243 rfl rfl (h0 c0 c1)
    · skip
      refine s_lload hJ d_62_231 rfl ?_
      refine s_lload_n hJ d_62_233 rfl ?_
      refine s_lif_ne (tgt := 242) hJ d_62_234 d_62_235 rfl (fun c2 => ?_) (fun c2 => ?_)
      · skip
        refine s_iconst_0 hJ d_62_242 ?_
        exact s_iret hJ d_62_243 rfl rfl (h1 c0 c1 c2)
      · skip
        refine s_iconst_1 hJ d_62_238 ?_
        refine s_goto (tgt := 243) hJ d_62_239 rfl ?_
        exact s_iret hJ d_62_243 rfl rfl (h2 c0 c1 c2)
  · skip
    refine s_lload hJ d_62_208 rfl ?_
    refine s_aload_n hJ d_62_210 rfl ?_
    refine s_iload_n hJ d_62_211 rfl ?_
    refine s_iload hJ d_62_212 rfl ?_
    exact s_V2 hJ lm_1_232 d_62_214 (Nat.le_of_ble_eq_true rfl) k0 (h3 c0)
set_option maxRecDepth 4000 in
theorem b_62_217 {mc ms : Nat} {X : Option (Nat × (Nat → Int32))} {T : aj_Tt} {Q : aj_Q} {J : aj_J} (hJ : aj_Cl 1 c_62 (some .boolean) false mc ms X T Q J) {o0 : Nat} {x1 : Int32} {x2 : Int64} {w3 : Option Value} {x4 : Int64} {w5 : Option Value} {w6 : Option Value} {w7 : Option Value} {x8 : Int32} {w9 : Option Value} {w10 : Option Value} {x11 : Int32} {s0 : Int64} {s1 : Int64} {Z : aj_Z} {I : aj_I} {G : aj_G} {C : Nat × Nat} (h0 : J 199 [some (.ref o0), some (.int x1), some (.long x2), w3, some (.long x4), w5, w6, w7, some (.int x8), some (.long (s1 + s0)), none, some (.int (x11 + 1))] [] Z I G C) : J 217 [some (.ref o0), some (.int x1), some (.long x2), w3, some (.long x4), w5, w6, w7, some (.int x8), w9, w10, some (.int x11)] [.long s0, .long s1] Z I G C := by
  refine s_ladd hJ d_62_217 ?_
  refine s_lstore hJ d_62_218 (Nat.le_of_ble_eq_true rfl) ?_
  refine s_iinc (v := 1) hJ d_62_220 rfl (by decide) ?_
  refine s_goto (tgt := 199) hJ d_62_223 rfl ?_
  exact h0
