/-! decode rows and block rows, by a program -/
-- ReelOfBoxes.tableOfType(I)I : method 18
theorem d_18_0 : decode c_18 0 = .ok (.iload_n 0, 1) := by decide +kernel
theorem d_18_1 : decode c_18 1 = .ok (.lookupswitch (59) #[((1668232756), (57)), ((1937007471), (57)), ((1937011555), (53)), ((1937011578), (55)), ((1937011827), (51))], 51) := by decide +kernel
theorem d_18_52 : decode c_18 52 = .ok (.iconst (0), 1) := by decide +kernel
theorem d_18_53 : decode c_18 53 = .ok (.ireturn, 1) := by decide +kernel
theorem d_18_54 : decode c_18 54 = .ok (.iconst (1), 1) := by decide +kernel
theorem d_18_55 : decode c_18 55 = .ok (.ireturn, 1) := by decide +kernel
theorem d_18_56 : decode c_18 56 = .ok (.iconst (2), 1) := by decide +kernel
theorem d_18_57 : decode c_18 57 = .ok (.ireturn, 1) := by decide +kernel
theorem d_18_58 : decode c_18 58 = .ok (.iconst (3), 1) := by decide +kernel
theorem d_18_59 : decode c_18 59 = .ok (.ireturn, 1) := by decide +kernel
theorem d_18_60 : decode c_18 60 = .ok (.iconst (-1), 1) := by decide +kernel
theorem d_18_61 : decode c_18 61 = .ok (.ireturn, 1) := by decide +kernel
set_option maxRecDepth 4000 in
theorem b_18_0 {mc ms : Nat} {X : Option (Nat × (Nat → Int32))} {T : aj_Tt} {Q : aj_Q} {J : aj_J} (hJ : aj_Cl 0 c_18 (some .int) false mc ms X T Q J) {x0 : Int32} {Z : aj_Z} {I : aj_I} {G : aj_G} {C : Nat × Nat} (h0 : x0 = 1668232756 → Q (some (.int 3)) Z I G) (h1 : ¬ x0 = 1668232756 → x0 = 1937007471 → Q (some (.int 3)) Z I G) (h2 : ¬ x0 = 1668232756 → ¬ x0 = 1937007471 → x0 = 1937011555 → Q (some (.int 1)) Z I G) (h3 : ¬ x0 = 1668232756 → ¬ x0 = 1937007471 → ¬ x0 = 1937011555 → x0 = 1937011578 → Q (some (.int 2)) Z I G) (h4 : ¬ x0 = 1668232756 → ¬ x0 = 1937007471 → ¬ x0 = 1937011555 → ¬ x0 = 1937011578 → x0 = 1937011827 → Q (some (.int 0)) Z I G) (h5 : ¬ x0 = 1668232756 → ¬ x0 = 1937007471 → ¬ x0 = 1937011555 → ¬ x0 = 1937011578 → ¬ x0 = 1937011827 → Q (some (.int (-1))) Z I G) : J 0 [some (.int x0)] [] Z I G C := by
  refine s_iload_n hJ d_18_0 rfl ?_
  by_cases c0 : x0 = 1668232756
  · skip
    refine s_lookup (off := 57) (tgt := 58) hJ d_18_1 (by decide) (by rw [c0]; decide) rfl ?_
    refine s_iconst_3 hJ d_18_58 ?_
    exact s_iret hJ d_18_59 rfl rfl (h0 c0)
  by_cases c1 : x0 = 1937007471
  · skip
    refine s_lookup (off := 57) (tgt := 58) hJ d_18_1 (by decide) (by rw [c1]; decide) rfl ?_
    refine s_iconst_3 hJ d_18_58 ?_
    exact s_iret hJ d_18_59 rfl rfl (h1 c0 c1)
  by_cases c2 : x0 = 1937011555
  · skip
    refine s_lookup (off := 53) (tgt := 54) hJ d_18_1 (by decide) (by rw [c2]; decide) rfl ?_
    refine s_iconst_1 hJ d_18_54 ?_
    exact s_iret hJ d_18_55 rfl rfl (h2 c0 c1 c2)
  by_cases c3 : x0 = 1937011578
  · skip
    refine s_lookup (off := 55) (tgt := 56) hJ d_18_1 (by decide) (by rw [c3]; decide) rfl ?_
    refine s_iconst_2 hJ d_18_56 ?_
    exact s_iret hJ d_18_57 rfl rfl (h3 c0 c1 c2 c3)
  by_cases c4 : x0 = 1937011827
  · skip
    refine s_lookup (off := 51) (tgt := 52) hJ d_18_1 (by decide) (by rw [c4]; decide) rfl ?_
    refine s_iconst_0 hJ d_18_52 ?_
    exact s_iret hJ d_18_53 rfl rfl (h4 c0 c1 c2 c3 c4)
  refine s_lookup (off := 59) (tgt := 60) hJ d_18_1 (by decide) ((lv_osw (k := 1668232756) c0 (by decide)).trans ((lv_osw (k := 1937007471) c1 (by decide)).trans ((lv_osw (k := 1937011555) c2 (by decide)).trans ((lv_osw (k := 1937011578) c3 (by decide)).trans ((lv_osw (k := 1937011827) c4 (by decide)).trans (rfl)))))) rfl ?_
  refine s_iconst_m1 hJ d_18_60 ?_
  exact s_iret hJ d_18_61 rfl rfl (h5 c0 c1 c2 c3 c4)
-- ReelOfBoxesModel.<init>()V : method 19
theorem d_19_0 : decode c_19 0 = .ok (.aload_n 0, 1) := by decide +kernel
theorem d_19_1 : decode c_19 1 = .ok (.invokespecial 1, 3) := by decide +kernel
theorem d_19_4 : decode c_19 4 = .ok (.aload_n 0, 1) := by decide +kernel
theorem d_19_5 : decode c_19 5 = .ok (.iconst (3), 1) := by decide +kernel
theorem d_19_6 : decode c_19 6 = .ok (.newarray .int, 2) := by decide +kernel
theorem d_19_8 : decode c_19 8 = .ok (.putfield 7, 3) := by decide +kernel
theorem d_19_11 : decode c_19 11 = .ok (.aload_n 0, 1) := by decide +kernel
theorem d_19_12 : decode c_19 12 = .ok (.bipush (48), 2) := by decide +kernel
theorem d_19_14 : decode c_19 14 = .ok (.newarray .int, 2) := by decide +kernel
theorem d_19_16 : decode c_19 16 = .ok (.putfield 13, 3) := by decide +kernel
theorem d_19_19 : decode c_19 19 = .ok (.aload_n 0, 1) := by decide +kernel
theorem d_19_20 : decode c_19 20 = .ok (.bipush (48), 2) := by decide +kernel
theorem d_19_22 : decode c_19 22 = .ok (.newarray .int, 2) := by decide +kernel
theorem d_19_24 : decode c_19 24 = .ok (.putfield 16, 3) := by decide +kernel
theorem d_19_27 : decode c_19 27 = .ok (.aload_n 0, 1) := by decide +kernel
theorem d_19_28 : decode c_19 28 = .ok (.bipush (48), 2) := by decide +kernel
theorem d_19_30 : decode c_19 30 = .ok (.newarray .long, 2) := by decide +kernel
theorem d_19_32 : decode c_19 32 = .ok (.putfield 19, 3) := by decide +kernel
theorem d_19_35 : decode c_19 35 = .ok (.aload_n 0, 1) := by decide +kernel
theorem d_19_36 : decode c_19 36 = .ok (.sipush (1200), 3) := by decide +kernel
theorem d_19_39 : decode c_19 39 = .ok (.newarray .int, 2) := by decide +kernel
theorem d_19_41 : decode c_19 41 = .ok (.putfield 23, 3) := by decide +kernel
theorem d_19_44 : decode c_19 44 = .ok (.aload_n 0, 1) := by decide +kernel
theorem d_19_45 : decode c_19 45 = .ok (.iconst (-1), 1) := by decide +kernel
theorem d_19_46 : decode c_19 46 = .ok (.putfield 26, 3) := by decide +kernel
theorem d_19_49 : decode c_19 49 = .ok (.aload_n 0, 1) := by decide +kernel
theorem d_19_50 : decode c_19 50 = .ok (.iconst (4), 1) := by decide +kernel
theorem d_19_51 : decode c_19 51 = .ok (.newarray .int, 2) := by decide +kernel
theorem d_19_53 : decode c_19 53 = .ok (.putfield 30, 3) := by decide +kernel
theorem d_19_56 : decode c_19 56 = .ok (.aload_n 0, 1) := by decide +kernel
theorem d_19_57 : decode c_19 57 = .ok (.iconst (4), 1) := by decide +kernel
theorem d_19_58 : decode c_19 58 = .ok (.newarray .int, 2) := by decide +kernel
theorem d_19_60 : decode c_19 60 = .ok (.putfield 33, 3) := by decide +kernel
theorem d_19_63 : decode c_19 63 = .ok (.aload_n 0, 1) := by decide +kernel
theorem d_19_64 : decode c_19 64 = .ok (.iconst (3), 1) := by decide +kernel
theorem d_19_65 : decode c_19 65 = .ok (.newarray .int, 2) := by decide +kernel
theorem d_19_67 : decode c_19 67 = .ok (.putfield 36, 3) := by decide +kernel
theorem d_19_70 : decode c_19 70 = .ok (.aload_n 0, 1) := by decide +kernel
theorem d_19_71 : decode c_19 71 = .ok (.bipush (12), 2) := by decide +kernel
theorem d_19_73 : decode c_19 73 = .ok (.newarray .int, 2) := by decide +kernel
theorem d_19_75 : decode c_19 75 = .ok (.putfield 39, 3) := by decide +kernel
theorem d_19_78 : decode c_19 78 = .ok (.aload_n 0, 1) := by decide +kernel
theorem d_19_79 : decode c_19 79 = .ok (.bipush (12), 2) := by decide +kernel
theorem d_19_81 : decode c_19 81 = .ok (.newarray .int, 2) := by decide +kernel
theorem d_19_83 : decode c_19 83 = .ok (.putfield 42, 3) := by decide +kernel
theorem d_19_86 : decode c_19 86 = .ok (.aload_n 0, 1) := by decide +kernel
theorem d_19_87 : decode c_19 87 = .ok (.bipush (12), 2) := by decide +kernel
theorem d_19_89 : decode c_19 89 = .ok (.newarray .int, 2) := by decide +kernel
theorem d_19_91 : decode c_19 91 = .ok (.putfield 45, 3) := by decide +kernel
theorem d_19_94 : decode c_19 94 = .ok (.aload_n 0, 1) := by decide +kernel
theorem d_19_95 : decode c_19 95 = .ok (.iconst (3), 1) := by decide +kernel
theorem d_19_96 : decode c_19 96 = .ok (.newarray .boolean, 2) := by decide +kernel
theorem d_19_98 : decode c_19 98 = .ok (.putfield 48, 3) := by decide +kernel
theorem d_19_101 : decode c_19 101 = .ok (.aload_n 0, 1) := by decide +kernel
theorem d_19_102 : decode c_19 102 = .ok (.iconst (3), 1) := by decide +kernel
theorem d_19_103 : decode c_19 103 = .ok (.newarray .int, 2) := by decide +kernel
theorem d_19_105 : decode c_19 105 = .ok (.putfield 52, 3) := by decide +kernel
theorem d_19_108 : decode c_19 108 = .ok (.aload_n 0, 1) := by decide +kernel
theorem d_19_109 : decode c_19 109 = .ok (.bipush (48), 2) := by decide +kernel
theorem d_19_111 : decode c_19 111 = .ok (.newarray .int, 2) := by decide +kernel
theorem d_19_113 : decode c_19 113 = .ok (.putfield 55, 3) := by decide +kernel
theorem d_19_116 : decode c_19 116 = .ok (.aload_n 0, 1) := by decide +kernel
theorem d_19_117 : decode c_19 117 = .ok (.bipush (48), 2) := by decide +kernel
theorem d_19_119 : decode c_19 119 = .ok (.newarray .int, 2) := by decide +kernel
theorem d_19_121 : decode c_19 121 = .ok (.putfield 58, 3) := by decide +kernel
theorem d_19_124 : decode c_19 124 = .ok (.aload_n 0, 1) := by decide +kernel
theorem d_19_125 : decode c_19 125 = .ok (.bipush (48), 2) := by decide +kernel
theorem d_19_127 : decode c_19 127 = .ok (.newarray .long, 2) := by decide +kernel
theorem d_19_129 : decode c_19 129 = .ok (.putfield 61, 3) := by decide +kernel
theorem d_19_132 : decode c_19 132 = .ok (.return_, 1) := by decide +kernel
-- ReelOfBoxesModel.track()I : method 20
theorem d_20_0 : decode c_20 0 = .ok (.aload_n 0, 1) := by decide +kernel
theorem d_20_1 : decode c_20 1 = .ok (.getfield 64, 3) := by decide +kernel
theorem d_20_4 : decode c_20 4 = .ok (.iconst (3), 1) := by decide +kernel
theorem d_20_5 : decode c_20 5 = .ok (.if_icmp .ne (5), 3) := by decide +kernel
theorem d_20_8 : decode c_20 8 = .ok (.iconst (-1), 1) := by decide +kernel
theorem d_20_9 : decode c_20 9 = .ok (.ireturn, 1) := by decide +kernel
theorem d_20_10 : decode c_20 10 = .ok (.aload_n 0, 1) := by decide +kernel
theorem d_20_11 : decode c_20 11 = .ok (.getfield 7, 3) := by decide +kernel
theorem d_20_14 : decode c_20 14 = .ok (.aload_n 0, 1) := by decide +kernel
theorem d_20_15 : decode c_20 15 = .ok (.getfield 64, 3) := by decide +kernel
theorem d_20_18 : decode c_20 18 = .ok (.iconst (0), 1) := by decide +kernel
theorem d_20_19 : decode c_20 19 = .ok (.iastore, 1) := by decide +kernel
theorem d_20_20 : decode c_20 20 = .ok (.aload_n 0, 1) := by decide +kernel
theorem d_20_21 : decode c_20 21 = .ok (.aload_n 0, 1) := by decide +kernel
theorem d_20_22 : decode c_20 22 = .ok (.getfield 64, 3) := by decide +kernel
theorem d_20_25 : decode c_20 25 = .ok (.iconst (1), 1) := by decide +kernel
theorem d_20_26 : decode c_20 26 = .ok (.iadd, 1) := by decide +kernel
theorem d_20_27 : decode c_20 27 = .ok (.putfield 64, 3) := by decide +kernel
theorem d_20_30 : decode c_20 30 = .ok (.aload_n 0, 1) := by decide +kernel
theorem d_20_31 : decode c_20 31 = .ok (.getfield 64, 3) := by decide +kernel
theorem d_20_34 : decode c_20 34 = .ok (.iconst (1), 1) := by decide +kernel
theorem d_20_35 : decode c_20 35 = .ok (.isub, 1) := by decide +kernel
theorem d_20_36 : decode c_20 36 = .ok (.ireturn, 1) := by decide +kernel
set_option maxRecDepth 4000 in
theorem b_20_0 {mc ms : Nat} {X : Option (Nat × (Nat → Int32))} {T : aj_Tt} {Q : aj_Q} {J : aj_J} (hJ : aj_Cl 1 c_20 (some .int) false mc ms X T Q J) {o0 : Nat} {q0 : Nat} {nk1 : Nat} {Z : aj_Z} {I : aj_I} {G : aj_G} {C : Nat × Nat} (k0 : Z.2.1 o0 = some (.inl 1)) (r0 : Z.2.2 o0 1 = .ref q0) (k1 : Z.2.1 q0 = some (.inr (0, nk1))) (h0 : ¬ (I o0 0) = 3 → vp_in (I o0 0) nk1) (h1 : ¬ (I o0 0) = 3 → Q (some (.int (((aj_u2 (aj_u2 I q0 (Int32.toNatClampNeg (I o0 0)) 0) o0 0 (((aj_u2 I q0 (Int32.toNatClampNeg (I o0 0)) 0) o0 0) + 1)) o0 0) - 1))) Z (aj_u2 (aj_u2 I q0 (Int32.toNatClampNeg (I o0 0)) 0) o0 0 (((aj_u2 I q0 (Int32.toNatClampNeg (I o0 0)) 0) o0 0) + 1)) G) (h2 : (I o0 0) = 3 → Q (some (.int (-1))) Z I G) : J 0 [some (.ref o0)] [] Z I G C := by
  refine s_aload_n hJ d_20_0 rfl ?_
  refine s_geti hJ lf_1_64 rfl d_20_1 k0 ?_
  refine s_iconst_3 hJ d_20_4 ?_
  refine s_icmp_ne (tgt := 10) hJ d_20_5 rfl (fun c0 => ?_) (fun c0 => ?_)
  · skip
    refine s_aload_n hJ d_20_10 rfl ?_
    refine s_getr hJ lf_1_7 rfl d_20_11 k0 r0 ?_
    refine s_aload_n hJ d_20_14 rfl ?_
    refine s_geti hJ lf_1_64 rfl d_20_15 k0 ?_
    refine s_iconst_0 hJ d_20_18 ?_
    refine s_iast hJ d_20_19 k1 (h0 c0) ?_
    refine s_aload_n hJ d_20_20 rfl ?_
    refine s_aload_n hJ d_20_21 rfl ?_
    refine s_geti hJ lf_1_64 rfl d_20_22 k0 ?_
    refine s_iconst_1 hJ d_20_25 ?_
    refine s_iadd hJ d_20_26 ?_
    refine s_puti hJ lf_1_64 rfl d_20_27 k0 ?_
    refine s_aload_n hJ d_20_30 rfl ?_
    refine s_geti hJ lf_1_64 rfl d_20_31 k0 ?_
    refine s_iconst_1 hJ d_20_34 ?_
    refine s_isub hJ d_20_35 ?_
    exact s_iret hJ d_20_36 rfl rfl (h1 c0)
  · skip
    refine s_iconst_m1 hJ d_20_8 ?_
    exact s_iret hJ d_20_9 rfl rfl (h2 c0)
-- ReelOfBoxesModel.isTrack(I)Z : method 21
theorem d_21_0 : decode c_21 0 = .ok (.iload_n 1, 1) := by decide +kernel
theorem d_21_1 : decode c_21 1 = .ok (.ifCond .lt (15), 3) := by decide +kernel
theorem d_21_4 : decode c_21 4 = .ok (.iload_n 1, 1) := by decide +kernel
theorem d_21_5 : decode c_21 5 = .ok (.aload_n 0, 1) := by decide +kernel
theorem d_21_6 : decode c_21 6 = .ok (.getfield 64, 3) := by decide +kernel
theorem d_21_9 : decode c_21 9 = .ok (.if_icmp .ge (7), 3) := by decide +kernel
theorem d_21_12 : decode c_21 12 = .ok (.iconst (1), 1) := by decide +kernel
theorem d_21_13 : decode c_21 13 = .ok (.goto (4), 3) := by decide +kernel
theorem d_21_16 : decode c_21 16 = .ok (.iconst (0), 1) := by decide +kernel
theorem d_21_17 : decode c_21 17 = .ok (.ireturn, 1) := by decide +kernel
set_option maxRecDepth 4000 in
theorem b_21_0 {mc ms : Nat} {X : Option (Nat × (Nat → Int32))} {T : aj_Tt} {Q : aj_Q} {J : aj_J} (hJ : aj_Cl 1 c_21 (some .boolean) false mc ms X T Q J) {o0 : Nat} {x1 : Int32} {Z : aj_Z} {I : aj_I} {G : aj_G} {C : Nat × Nat} (h0 : x1 < 0 → Q (some (.int 0)) Z I G) (k0 : Z.2.1 o0 = some (.inl 1)) (h1 : ¬ x1 < 0 → (I o0 0) ≤ x1 → Q (some (.int 0)) Z I G) (h2 : ¬ x1 < 0 → ¬ (I o0 0) ≤ x1 → Q (some (.int 1)) Z I G) : J 0 [some (.ref o0), some (.int x1)] [] Z I G C := by
  refine s_iload_n hJ d_21_0 rfl ?_
  refine s_if_lt (tgt := 16) hJ d_21_1 rfl (fun c0 => ?_) (fun c0 => ?_)
  · skip
    refine s_iconst_0 hJ d_21_16 ?_
    exact s_iret hJ d_21_17 rfl rfl (h0 c0)
  · skip
    refine s_iload_n hJ d_21_4 rfl ?_
    refine s_aload_n hJ d_21_5 rfl ?_
    refine s_geti hJ lf_1_64 rfl d_21_6 k0 ?_
    refine s_icmp_ge (tgt := 16) hJ d_21_9 rfl (fun c1 => ?_) (fun c1 => ?_)
    · skip
      refine s_iconst_0 hJ d_21_16 ?_
      exact s_iret hJ d_21_17 rfl rfl (h1 c0 c1)
    · skip
      refine s_iconst_1 hJ d_21_12 ?_
      refine s_goto (tgt := 17) hJ d_21_13 rfl ?_
      exact s_iret hJ d_21_17 rfl rfl (h2 c0 c1)
-- ReelOfBoxesModel.isSample(II)Z : method 22
theorem d_22_0 : decode c_22 0 = .ok (.aload_n 0, 1) := by decide +kernel
theorem d_22_1 : decode c_22 1 = .ok (.iload_n 1, 1) := by decide +kernel
theorem d_22_2 : decode c_22 2 = .ok (.invokevirtual 67, 3) := by decide +kernel
theorem d_22_5 : decode c_22 5 = .ok (.ifCond .eq (21), 3) := by decide +kernel
theorem d_22_8 : decode c_22 8 = .ok (.iload_n 2, 1) := by decide +kernel
theorem d_22_9 : decode c_22 9 = .ok (.ifCond .lt (17), 3) := by decide +kernel
theorem d_22_12 : decode c_22 12 = .ok (.iload_n 2, 1) := by decide +kernel
theorem d_22_13 : decode c_22 13 = .ok (.aload_n 0, 1) := by decide +kernel
theorem d_22_14 : decode c_22 14 = .ok (.getfield 7, 3) := by decide +kernel
theorem d_22_17 : decode c_22 17 = .ok (.iload_n 1, 1) := by decide +kernel
theorem d_22_18 : decode c_22 18 = .ok (.iaload, 1) := by decide +kernel
theorem d_22_19 : decode c_22 19 = .ok (.if_icmp .ge (7), 3) := by decide +kernel
theorem d_22_22 : decode c_22 22 = .ok (.iconst (1), 1) := by decide +kernel
theorem d_22_23 : decode c_22 23 = .ok (.goto (4), 3) := by decide +kernel
theorem d_22_26 : decode c_22 26 = .ok (.iconst (0), 1) := by decide +kernel
theorem d_22_27 : decode c_22 27 = .ok (.ireturn, 1) := by decide +kernel
set_option maxRecDepth 4000 in
theorem b_22_0 {mc ms : Nat} {X : Option (Nat × (Nat → Int32))} {T : aj_Tt} {Q : aj_Q} {J : aj_J} (hJ : aj_Cl 1 c_22 (some .boolean) false mc ms X T Q J) {o0 : Nat} {x1 : Int32} {x2 : Int32} {Z : aj_Z} {I : aj_I} {G : aj_G} {C : Nat × Nat} (k0 : Z.2.1 o0 = some (.inl 1)) (h0 : T 0 0 21 [.ref o0, .int x1] Z I G (fun r Z1 I1 G1 => J 5 [some (.ref o0), some (.int x1), some (.int x2)] (r.toList ++ []) Z1 I1 G1 C)) : J 0 [some (.ref o0), some (.int x1), some (.int x2)] [] Z I G C := by
  refine s_aload_n hJ d_22_0 rfl ?_
  refine s_iload_n hJ d_22_1 rfl ?_
  exact s_V1 hJ lm_1_67 d_22_2 (Nat.le_of_ble_eq_true rfl) k0 (h0)
set_option maxRecDepth 4000 in
theorem b_22_5 {mc ms : Nat} {X : Option (Nat × (Nat → Int32))} {T : aj_Tt} {Q : aj_Q} {J : aj_J} (hJ : aj_Cl 1 c_22 (some .boolean) false mc ms X T Q J) {o0 : Nat} {x1 : Int32} {x2 : Int32} {s0 : Int32} {q0 : Nat} {nk1 : Nat} {Z : aj_Z} {I : aj_I} {G : aj_G} {C : Nat × Nat} (h0 : s0 = 0 → Q (some (.int 0)) Z I G) (h1 : ¬ s0 = 0 → x2 < 0 → Q (some (.int 0)) Z I G) (k0 : Z.2.1 o0 = some (.inl 1)) (r0 : Z.2.2 o0 1 = .ref q0) (k1 : Z.2.1 q0 = some (.inr (0, nk1))) (h2 : ¬ s0 = 0 → ¬ x2 < 0 → vp_in x1 nk1) (h3 : ¬ s0 = 0 → ¬ x2 < 0 → (I q0 (Int32.toNatClampNeg x1)) ≤ x2 → Q (some (.int 0)) Z I G) (h4 : ¬ s0 = 0 → ¬ x2 < 0 → ¬ (I q0 (Int32.toNatClampNeg x1)) ≤ x2 → Q (some (.int 1)) Z I G) : J 5 [some (.ref o0), some (.int x1), some (.int x2)] [.int s0] Z I G C := by
  refine s_if_eq (tgt := 26) hJ d_22_5 rfl (fun c0 => ?_) (fun c0 => ?_)
  · skip
    refine s_iconst_0 hJ d_22_26 ?_
    exact s_iret hJ d_22_27 rfl rfl (h0 c0)
  · skip
    refine s_iload_n hJ d_22_8 rfl ?_
    refine s_if_lt (tgt := 26) hJ d_22_9 rfl (fun c1 => ?_) (fun c1 => ?_)
    · skip
      refine s_iconst_0 hJ d_22_26 ?_
      exact s_iret hJ d_22_27 rfl rfl (h1 c0 c1)
    · skip
      refine s_iload_n hJ d_22_12 rfl ?_
      refine s_aload_n hJ d_22_13 rfl ?_
      refine s_getr hJ lf_1_7 rfl d_22_14 k0 r0 ?_
      refine s_iload_n hJ d_22_17 rfl ?_
      refine s_iald hJ d_22_18 k1 (h2 c0 c1) ?_
      refine s_icmp_ge (tgt := 26) hJ d_22_19 rfl (fun c2 => ?_) (fun c2 => ?_)
      · skip
        refine s_iconst_0 hJ d_22_26 ?_
        exact s_iret hJ d_22_27 rfl rfl (h3 c0 c1 c2)
      · skip
        refine s_iconst_1 hJ d_22_22 ?_
        refine s_goto (tgt := 27) hJ d_22_23 rfl ?_
        exact s_iret hJ d_22_27 rfl rfl (h4 c0 c1 c2)
-- ReelOfBoxesModel.sample(IIJI)I : method 23
theorem d_23_0 : decode c_23 0 = .ok (.aload_n 0, 1) := by decide +kernel
theorem d_23_1 : decode c_23 1 = .ok (.iload_n 1, 1) := by decide +kernel
theorem d_23_2 : decode c_23 2 = .ok (.invokevirtual 67, 3) := by decide +kernel
theorem d_23_5 : decode c_23 5 = .ok (.ifCond .eq (30), 3) := by decide +kernel
theorem d_23_8 : decode c_23 8 = .ok (.aload_n 0, 1) := by decide +kernel
theorem d_23_9 : decode c_23 9 = .ok (.getfield 7, 3) := by decide +kernel
theorem d_23_12 : decode c_23 12 = .ok (.iload_n 1, 1) := by decide +kernel
theorem d_23_13 : decode c_23 13 = .ok (.iaload, 1) := by decide +kernel
theorem d_23_14 : decode c_23 14 = .ok (.bipush (16), 2) := by decide +kernel
theorem d_23_16 : decode c_23 16 = .ok (.if_icmp .eq (19), 3) := by decide +kernel
theorem d_23_19 : decode c_23 19 = .ok (.iload_n 2, 1) := by decide +kernel
theorem d_23_20 : decode c_23 20 = .ok (.ifCond .lt (15), 3) := by decide +kernel
theorem d_23_23 : decode c_23 23 = .ok (.iload 5, 2) := by decide +kernel
theorem d_23_25 : decode c_23 25 = .ok (.ifCond .lt (10), 3) := by decide +kernel
theorem d_23_28 : decode c_23 28 = .ok (.iload 5, 2) := by decide +kernel
theorem d_23_30 : decode c_23 30 = .ok (.bipush (8), 2) := by decide +kernel
theorem d_23_32 : decode c_23 32 = .ok (.if_icmp .le (5), 3) := by decide +kernel
theorem d_23_35 : decode c_23 35 = .ok (.iconst (-1), 1) := by decide +kernel
theorem d_23_36 : decode c_23 36 = .ok (.ireturn, 1) := by decide +kernel
theorem d_23_37 : decode c_23 37 = .ok (.bipush (16), 2) := by decide +kernel
theorem d_23_39 : decode c_23 39 = .ok (.iload_n 1, 1) := by decide +kernel
theorem d_23_40 : decode c_23 40 = .ok (.imul, 1) := by decide +kernel
theorem d_23_41 : decode c_23 41 = .ok (.aload_n 0, 1) := by decide +kernel
theorem d_23_42 : decode c_23 42 = .ok (.getfield 7, 3) := by decide +kernel
theorem d_23_45 : decode c_23 45 = .ok (.iload_n 1, 1) := by decide +kernel
theorem d_23_46 : decode c_23 46 = .ok (.iaload, 1) := by decide +kernel
theorem d_23_47 : decode c_23 47 = .ok (.iadd, 1) := by decide +kernel
theorem d_23_48 : decode c_23 48 = .ok (.istore 6, 2) := by decide +kernel
theorem d_23_50 : decode c_23 50 = .ok (.aload_n 0, 1) := by decide +kernel
theorem d_23_51 : decode c_23 51 = .ok (.getfield 13, 3) := by decide +kernel
theorem d_23_54 : decode c_23 54 = .ok (.iload 6, 2) := by decide +kernel
theorem d_23_56 : decode c_23 56 = .ok (.iload_n 2, 1) := by decide +kernel
theorem d_23_57 : decode c_23 57 = .ok (.iastore, 1) := by decide +kernel
theorem d_23_58 : decode c_23 58 = .ok (.aload_n 0, 1) := by decide +kernel
theorem d_23_59 : decode c_23 59 = .ok (.getfield 16, 3) := by decide +kernel
theorem d_23_62 : decode c_23 62 = .ok (.iload 6, 2) := by decide +kernel
theorem d_23_64 : decode c_23 64 = .ok (.iload 5, 2) := by decide +kernel
theorem d_23_66 : decode c_23 66 = .ok (.iastore, 1) := by decide +kernel
theorem d_23_67 : decode c_23 67 = .ok (.aload_n 0, 1) := by decide +kernel
theorem d_23_68 : decode c_23 68 = .ok (.getfield 19, 3) := by decide +kernel
theorem d_23_71 : decode c_23 71 = .ok (.iload 6, 2) := by decide +kernel
theorem d_23_73 : decode c_23 73 = .ok (.iload 5, 2) := by decide +kernel
theorem d_23_75 : decode c_23 75 = .ok (.bipush (8), 2) := by decide +kernel
theorem d_23_77 : decode c_23 77 = .ok (.if_icmp .ne (7), 3) := by decide +kernel
theorem d_23_80 : decode c_23 80 = .ok (.lload_n 3, 1) := by decide +kernel
theorem d_23_81 : decode c_23 81 = .ok (.goto (14), 3) := by decide +kernel
theorem d_23_84 : decode c_23 84 = .ok (.lload_n 3, 1) := by decide +kernel
theorem d_23_85 : decode c_23 85 = .ok (.lconst 1, 1) := by decide +kernel
theorem d_23_86 : decode c_23 86 = .ok (.bipush (8), 2) := by decide +kernel
theorem d_23_88 : decode c_23 88 = .ok (.iload 5, 2) := by decide +kernel
theorem d_23_90 : decode c_23 90 = .ok (.imul, 1) := by decide +kernel
theorem d_23_91 : decode c_23 91 = .ok (.lshl, 1) := by decide +kernel
theorem d_23_92 : decode c_23 92 = .ok (.lconst 1, 1) := by decide +kernel
theorem d_23_93 : decode c_23 93 = .ok (.lsub, 1) := by decide +kernel
theorem d_23_94 : decode c_23 94 = .ok (.land, 1) := by decide +kernel
theorem d_23_95 : decode c_23 95 = .ok (.lastore, 1) := by decide +kernel
theorem d_23_96 : decode c_23 96 = .ok (.aload_n 0, 1) := by decide +kernel
theorem d_23_97 : decode c_23 97 = .ok (.getfield 7, 3) := by decide +kernel
theorem d_23_100 : decode c_23 100 = .ok (.iload_n 1, 1) := by decide +kernel
theorem d_23_101 : decode c_23 101 = .ok (.aload_n 0, 1) := by decide +kernel
theorem d_23_102 : decode c_23 102 = .ok (.getfield 7, 3) := by decide +kernel
theorem d_23_105 : decode c_23 105 = .ok (.iload_n 1, 1) := by decide +kernel
theorem d_23_106 : decode c_23 106 = .ok (.iaload, 1) := by decide +kernel
theorem d_23_107 : decode c_23 107 = .ok (.iconst (1), 1) := by decide +kernel
theorem d_23_108 : decode c_23 108 = .ok (.iadd, 1) := by decide +kernel
theorem d_23_109 : decode c_23 109 = .ok (.iastore, 1) := by decide +kernel
theorem d_23_110 : decode c_23 110 = .ok (.aload_n 0, 1) := by decide +kernel
theorem d_23_111 : decode c_23 111 = .ok (.getfield 7, 3) := by decide +kernel
theorem d_23_114 : decode c_23 114 = .ok (.iload_n 1, 1) := by decide +kernel
theorem d_23_115 : decode c_23 115 = .ok (.iaload, 1) := by decide +kernel
theorem d_23_116 : decode c_23 116 = .ok (.iconst (1), 1) := by decide +kernel
theorem d_23_117 : decode c_23 117 = .ok (.isub, 1) := by decide +kernel
theorem d_23_118 : decode c_23 118 = .ok (.ireturn, 1) := by decide +kernel
set_option maxRecDepth 4000 in
theorem b_23_0 {mc ms : Nat} {X : Option (Nat × (Nat → Int32))} {T : aj_Tt} {Q : aj_Q} {J : aj_J} (hJ : aj_Cl 1 c_23 (some .int) false mc ms X T Q J) {o0 : Nat} {x1 : Int32} {x2 : Int32} {x3 : Int64} {x5 : Int32} {Z : aj_Z} {I : aj_I} {G : aj_G} {C : Nat × Nat} (k0 : Z.2.1 o0 = some (.inl 1)) (h0 : T 0 0 21 [.ref o0, .int x1] Z I G (fun r Z1 I1 G1 => J 5 [some (.ref o0), some (.int x1), some (.int x2), some (.long x3), none, some (.int x5), none] (r.toList ++ []) Z1 I1 G1 C)) : J 0 [some (.ref o0), some (.int x1), some (.int x2), some (.long x3), none, some (.int x5), none] [] Z I G C := by
  refine s_aload_n hJ d_23_0 rfl ?_
  refine s_iload_n hJ d_23_1 rfl ?_
  exact s_V1 hJ lm_1_67 d_23_2 (Nat.le_of_ble_eq_true rfl) k0 (h0)
set_option maxRecDepth 4000 in
theorem b_23_5 {mc ms : Nat} {X : Option (Nat × (Nat → Int32))} {T : aj_Tt} {Q : aj_Q} {J : aj_J} (hJ : aj_Cl 1 c_23 (some .int) false mc ms X T Q J) {o0 : Nat} {x1 : Int32} {x2 : Int32} {x3 : Int64} {w4 : Option Value} {x5 : Int32} {w6 : Option Value} {s0 : Int32} {q0 : Nat} {nk1 : Nat} {q1 : Nat} {nk3 : Nat} {q2 : Nat} {nk5 : Nat} {q3 : Nat} {Z : aj_Z} {I : aj_I} {G : aj_G} {C : Nat × Nat} (h0 : s0 = 0 → Q (some (.int (-1))) Z I G) (k0 : Z.2.1 o0 = some (.inl 1)) (r0 : Z.2.2 o0 1 = .ref q0) (k1 : Z.2.1 q0 = some (.inr (0, nk1))) (h1 : ¬ s0 = 0 → vp_in x1 nk1) (h2 : ¬ s0 = 0 → (I q0 (Int32.toNatClampNeg x1)) = 16 → Q (some (.int (-1))) Z I G) (h3 : ¬ s0 = 0 → ¬ (I q0 (Int32.toNatClampNeg x1)) = 16 → x2 < 0 → Q (some (.int (-1))) Z I G) (h4 : ¬ s0 = 0 → ¬ (I q0 (Int32.toNatClampNeg x1)) = 16 → ¬ x2 < 0 → x5 < 0 → Q (some (.int (-1))) Z I G) (h5 : ¬ s0 = 0 → ¬ (I q0 (Int32.toNatClampNeg x1)) = 16 → ¬ x2 < 0 → ¬ x5 < 0 → x5 ≤ 8 → vp_in x1 nk1) (r1 : Z.2.2 o0 2 = .ref q1) (k3 : Z.2.1 q1 = some (.inr (0, nk3))) (h6 : ¬ s0 = 0 → ¬ (I q0 (Int32.toNatClampNeg x1)) = 16 → ¬ x2 < 0 → ¬ x5 < 0 → x5 ≤ 8 → vp_in ((16 * x1) + (I q0 (Int32.toNatClampNeg x1))) nk3) (r2 : Z.2.2 o0 3 = .ref q2) (k5 : Z.2.1 q2 = some (.inr (0, nk5))) (h7 : ¬ s0 = 0 → ¬ (I q0 (Int32.toNatClampNeg x1)) = 16 → ¬ x2 < 0 → ¬ x5 < 0 → x5 ≤ 8 → vp_in ((16 * x1) + (I q0 (Int32.toNatClampNeg x1))) nk5) (r3 : Z.2.2 o0 4 = .ref q3) (h8 : ¬ s0 = 0 → ¬ (I q0 (Int32.toNatClampNeg x1)) = 16 → ¬ x2 < 0 → ¬ x5 < 0 → x5 ≤ 8 → ¬ x5 = 8 → J 95 [some (.ref o0), some (.int x1), some (.int x2), some (.long x3), w4, some (.int x5), some (.int ((16 * x1) + (I q0 (Int32.toNatClampNeg x1))))] [.long (x3 &&& ((1 <<< (Int32.toInt64 (8 * x5) &&& 63)) - 1)), .int ((16 * x1) + (I q0 (Int32.toNatClampNeg x1))), .ref q3] Z (aj_u2 (aj_u2 I q1 (Int32.toNatClampNeg ((16 * x1) + (I q0 (Int32.toNatClampNeg x1)))) x2) q2 (Int32.toNatClampNeg ((16 * x1) + (I q0 (Int32.toNatClampNeg x1)))) x5) G C) (h9 : ¬ s0 = 0 → ¬ (I q0 (Int32.toNatClampNeg x1)) = 16 → ¬ x2 < 0 → ¬ x5 < 0 → x5 ≤ 8 → x5 = 8 → J 95 [some (.ref o0), some (.int x1), some (.int x2), some (.long x3), w4, some (.int x5), some (.int ((16 * x1) + (I q0 (Int32.toNatClampNeg x1))))] [.long x3, .int ((16 * x1) + (I q0 (Int32.toNatClampNeg x1))), .ref q3] Z (aj_u2 (aj_u2 I q1 (Int32.toNatClampNeg ((16 * x1) + (I q0 (Int32.toNatClampNeg x1)))) x2) q2 (Int32.toNatClampNeg ((16 * x1) + (I q0 (Int32.toNatClampNeg x1)))) x5) G C) (h10 : ¬ s0 = 0 → ¬ (I q0 (Int32.toNatClampNeg x1)) = 16 → ¬ x2 < 0 → ¬ x5 < 0 → ¬ x5 ≤ 8 → Q (some (.int (-1))) Z I G) : J 5 [some (.ref o0), some (.int x1), some (.int x2), some (.long x3), w4, some (.int x5), w6] [.int s0] Z I G C := by
  refine s_if_eq (tgt := 35) hJ d_23_5 rfl (fun c0 => ?_) (fun c0 => ?_)
  · skip
    refine s_iconst_m1 hJ d_23_35 ?_
    exact s_iret hJ d_23_36 rfl rfl (h0 c0)
  · skip
    refine s_aload_n hJ d_23_8 rfl ?_
    refine s_getr hJ lf_1_7 rfl d_23_9 k0 r0 ?_
    refine s_iload_n hJ d_23_12 rfl ?_
    refine s_iald hJ d_23_13 k1 (h1 c0) ?_
    refine s_bipush (v := 16) hJ d_23_14 (by decide) ?_
    refine s_icmp_eq (tgt := 35) hJ d_23_16 rfl (fun c1 => ?_) (fun c1 => ?_)
    · skip
      refine s_iconst_m1 hJ d_23_35 ?_
      exact s_iret hJ d_23_36 rfl rfl (h2 c0 c1)
    · skip
      refine s_iload_n hJ d_23_19 rfl ?_
      refine s_if_lt (tgt := 35) hJ d_23_20 rfl (fun c2 => ?_) (fun c2 => ?_)
      · skip
        refine s_iconst_m1 hJ d_23_35 ?_
        exact s_iret hJ d_23_36 rfl rfl (h3 c0 c1 c2)
      · skip
        refine s_iload hJ d_23_23 rfl ?_
        refine s_if_lt (tgt := 35) hJ d_23_25 rfl (fun c3 => ?_) (fun c3 => ?_)
        · skip
          refine s_iconst_m1 hJ d_23_35 ?_
          exact s_iret hJ d_23_36 rfl rfl (h4 c0 c1 c2 c3)
        · skip
          refine s_iload hJ d_23_28 rfl ?_
          refine s_bipush (v := 8) hJ d_23_30 (by decide) ?_
          refine s_icmp_le (tgt := 37) hJ d_23_32 rfl (fun c4 => ?_) (fun c4 => ?_)
          · skip
            refine s_bipush (v := 16) hJ d_23_37 (by decide) ?_
            refine s_iload_n hJ d_23_39 rfl ?_
            refine s_imul hJ d_23_40 ?_
            refine s_aload_n hJ d_23_41 rfl ?_
            refine s_getr hJ lf_1_7 rfl d_23_42 k0 r0 ?_
            refine s_iload_n hJ d_23_45 rfl ?_
            refine s_iald hJ d_23_46 k1 (h5 c0 c1 c2 c3 c4) ?_
            refine s_iadd hJ d_23_47 ?_
            refine s_istore hJ d_23_48 (Nat.le_of_ble_eq_true rfl) ?_
            refine s_aload_n hJ d_23_50 rfl ?_
            refine s_getr hJ lf_1_13 rfl d_23_51 k0 r1 ?_
            refine s_iload hJ d_23_54 rfl ?_
            refine s_iload_n hJ d_23_56 rfl ?_
            refine s_iast hJ d_23_57 k3 (h6 c0 c1 c2 c3 c4) ?_
            refine s_aload_n hJ d_23_58 rfl ?_
            refine s_getr hJ lf_1_16 rfl d_23_59 k0 r2 ?_
            refine s_iload hJ d_23_62 rfl ?_
            refine s_iload hJ d_23_64 rfl ?_
            refine s_iast hJ d_23_66 k5 (h7 c0 c1 c2 c3 c4) ?_
            refine s_aload_n hJ d_23_67 rfl ?_
            refine s_getr hJ lf_1_19 rfl d_23_68 k0 r3 ?_
            refine s_iload hJ d_23_71 rfl ?_
            refine s_iload hJ d_23_73 rfl ?_
            refine s_bipush (v := 8) hJ d_23_75 (by decide) ?_
            refine s_icmp_ne (tgt := 84) hJ d_23_77 rfl (fun c5 => ?_) (fun c5 => ?_)
            · skip
              refine s_lload_n hJ d_23_84 rfl ?_
              refine s_lconst_1 hJ d_23_85 ?_
              refine s_bipush (v := 8) hJ d_23_86 (by decide) ?_
              refine s_iload hJ d_23_88 rfl ?_
              refine s_imul hJ d_23_90 ?_
              refine s_lshl hJ d_23_91 ?_
              refine s_lconst_1 hJ d_23_92 ?_
              refine s_lsub hJ d_23_93 ?_
              refine s_land hJ d_23_94 ?_
              exact h8 c0 c1 c2 c3 c4 c5
            · skip
              refine s_lload_n hJ d_23_80 rfl ?_
              refine s_goto (tgt := 95) hJ d_23_81 rfl ?_
              exact h9 c0 c1 c2 c3 c4 c5
          · skip
            refine s_iconst_m1 hJ d_23_35 ?_
            exact s_iret hJ d_23_36 rfl rfl (h10 c0 c1 c2 c3 c4)
set_option maxRecDepth 4000 in
theorem b_23_95 {mc ms : Nat} {X : Option (Nat × (Nat → Int32))} {T : aj_Tt} {Q : aj_Q} {J : aj_J} (hJ : aj_Cl 1 c_23 (some .int) false mc ms X T Q J) {o0 : Nat} {x1 : Int32} {w2 : Option Value} {w3 : Option Value} {w4 : Option Value} {w5 : Option Value} {w6 : Option Value} {s0 : Int64} {s1 : Int32} {s2 : Nat} {nk0 : Nat} {q0 : Nat} {nk3 : Nat} {Z : aj_Z} {I : aj_I} {G : aj_G} {C : Nat × Nat} (k0 : Z.2.1 s2 = some (.inr (1, nk0))) (h0 : vp_in s1 nk0) (k2 : Z.2.1 o0 = some (.inl 1)) (r0 : Z.2.2 o0 1 = .ref q0) (k3 : Z.2.1 q0 = some (.inr (0, nk3))) (h1 : vp_in x1 nk3) (h2 : vp_in x1 nk3) (h3 : vp_in x1 nk3) (h4 : Q (some (.int (((aj_u2 I q0 (Int32.toNatClampNeg x1) ((I q0 (Int32.toNatClampNeg x1)) + 1)) q0 (Int32.toNatClampNeg x1)) - 1))) Z (aj_u2 I q0 (Int32.toNatClampNeg x1) ((I q0 (Int32.toNatClampNeg x1)) + 1)) (aj_u2 G s2 (Int32.toNatClampNeg s1) s0)) : J 95 [some (.ref o0), some (.int x1), w2, w3, w4, w5, w6] [.long s0, .int s1, .ref s2] Z I G C := by
  refine s_last hJ d_23_95 k0 (h0) ?_
  refine s_aload_n hJ d_23_96 rfl ?_
  refine s_getr hJ lf_1_7 rfl d_23_97 k2 r0 ?_
  refine s_iload_n hJ d_23_100 rfl ?_
  refine s_aload_n hJ d_23_101 rfl ?_
  refine s_getr hJ lf_1_7 rfl d_23_102 k2 r0 ?_
  refine s_iload_n hJ d_23_105 rfl ?_
  refine s_iald hJ d_23_106 k3 (h1) ?_
  refine s_iconst_1 hJ d_23_107 ?_
  refine s_iadd hJ d_23_108 ?_
  refine s_iast hJ d_23_109 k3 (h2) ?_
  refine s_aload_n hJ d_23_110 rfl ?_
  refine s_getr hJ lf_1_7 rfl d_23_111 k2 r0 ?_
  refine s_iload_n hJ d_23_114 rfl ?_
  refine s_iald hJ d_23_115 k3 (h3) ?_
  refine s_iconst_1 hJ d_23_116 ?_
  refine s_isub hJ d_23_117 ?_
  exact s_iret hJ d_23_118 rfl rfl (h4)
-- ReelOfBoxesModel.clear()I : method 24
theorem d_24_0 : decode c_24 0 = .ok (.aload_n 0, 1) := by decide +kernel
theorem d_24_1 : decode c_24 1 = .ok (.getfield 64, 3) := by decide +kernel
theorem d_24_4 : decode c_24 4 = .ok (.istore_n 1, 1) := by decide +kernel
theorem d_24_5 : decode c_24 5 = .ok (.aload_n 0, 1) := by decide +kernel
theorem d_24_6 : decode c_24 6 = .ok (.iconst (0), 1) := by decide +kernel
theorem d_24_7 : decode c_24 7 = .ok (.putfield 64, 3) := by decide +kernel
theorem d_24_10 : decode c_24 10 = .ok (.iload_n 1, 1) := by decide +kernel
theorem d_24_11 : decode c_24 11 = .ok (.ireturn, 1) := by decide +kernel
set_option maxRecDepth 4000 in
theorem b_24_0 {mc ms : Nat} {X : Option (Nat × (Nat → Int32))} {T : aj_Tt} {Q : aj_Q} {J : aj_J} (hJ : aj_Cl 1 c_24 (some .int) false mc ms X T Q J) {o0 : Nat} {Z : aj_Z} {I : aj_I} {G : aj_G} {C : Nat × Nat} (k0 : Z.2.1 o0 = some (.inl 1)) (h0 : Q (some (.int (I o0 0))) Z (aj_u2 I o0 0 0) G) : J 0 [some (.ref o0), none] [] Z I G C := by
  refine s_aload_n hJ d_24_0 rfl ?_
  refine s_geti hJ lf_1_64 rfl d_24_1 k0 ?_
  refine s_istore_n hJ d_24_4 (Nat.le_of_ble_eq_true rfl) ?_
  refine s_aload_n hJ d_24_5 rfl ?_
  refine s_iconst_0 hJ d_24_6 ?_
  refine s_puti hJ lf_1_64 rfl d_24_7 k0 ?_
  refine s_iload_n hJ d_24_10 rfl ?_
  exact s_iret hJ d_24_11 rfl rfl (h0)
-- ReelOfBoxesModel.put(JI)V : method 25
theorem d_25_0 : decode c_25 0 = .ok (.iload_n 3, 1) := by decide +kernel
theorem d_25_1 : decode c_25 1 = .ok (.iconst (1), 1) := by decide +kernel
theorem d_25_2 : decode c_25 2 = .ok (.isub, 1) := by decide +kernel
theorem d_25_3 : decode c_25 3 = .ok (.istore 4, 2) := by decide +kernel
theorem d_25_5 : decode c_25 5 = .ok (.iload 4, 2) := by decide +kernel
theorem d_25_7 : decode c_25 7 = .ok (.ifCond .lt (40), 3) := by decide +kernel
theorem d_25_10 : decode c_25 10 = .ok (.aload_n 0, 1) := by decide +kernel
theorem d_25_11 : decode c_25 11 = .ok (.getfield 23, 3) := by decide +kernel
theorem d_25_14 : decode c_25 14 = .ok (.aload_n 0, 1) := by decide +kernel
theorem d_25_15 : decode c_25 15 = .ok (.getfield 71, 3) := by decide +kernel
theorem d_25_18 : decode c_25 18 = .ok (.lload_n 1, 1) := by decide +kernel
theorem d_25_19 : decode c_25 19 = .ok (.bipush (8), 2) := by decide +kernel
theorem d_25_21 : decode c_25 21 = .ok (.iload 4, 2) := by decide +kernel
theorem d_25_23 : decode c_25 23 = .ok (.imul, 1) := by decide +kernel
theorem d_25_24 : decode c_25 24 = .ok (.lshr, 1) := by decide +kernel
theorem d_25_25 : decode c_25 25 = .ok (.ldc2_w 74, 3) := by decide +kernel
theorem d_25_28 : decode c_25 28 = .ok (.land, 1) := by decide +kernel
theorem d_25_29 : decode c_25 29 = .ok (.l2i, 1) := by decide +kernel
theorem d_25_30 : decode c_25 30 = .ok (.iastore, 1) := by decide +kernel
theorem d_25_31 : decode c_25 31 = .ok (.aload_n 0, 1) := by decide +kernel
theorem d_25_32 : decode c_25 32 = .ok (.aload_n 0, 1) := by decide +kernel
theorem d_25_33 : decode c_25 33 = .ok (.getfield 71, 3) := by decide +kernel
theorem d_25_36 : decode c_25 36 = .ok (.iconst (1), 1) := by decide +kernel
theorem d_25_37 : decode c_25 37 = .ok (.iadd, 1) := by decide +kernel
theorem d_25_38 : decode c_25 38 = .ok (.putfield 71, 3) := by decide +kernel
theorem d_25_41 : decode c_25 41 = .ok (.iinc 4 (-1), 3) := by decide +kernel
theorem d_25_44 : decode c_25 44 = .ok (.goto (-39), 3) := by decide +kernel
theorem d_25_47 : decode c_25 47 = .ok (.return_, 1) := by decide +kernel
set_option maxRecDepth 4000 in
theorem b_25_0 {mc ms : Nat} {X : Option (Nat × (Nat → Int32))} {T : aj_Tt} {Q : aj_Q} {J : aj_J} (hJ : aj_Cl 1 c_25 (none) false mc ms X T Q J) {o0 : Nat} {x1 : Int64} {x3 : Int32} {Z : aj_Z} {I : aj_I} {G : aj_G} {C : Nat × Nat} (h0 : J 5 [some (.ref o0), some (.long x1), none, some (.int x3), some (.int (x3 - 1))] [] Z I G C) : J 0 [some (.ref o0), some (.long x1), none, some (.int x3), none] [] Z I G C := by
  refine s_iload_n hJ d_25_0 rfl ?_
  refine s_iconst_1 hJ d_25_1 ?_
  refine s_isub hJ d_25_2 ?_
  refine s_istore hJ d_25_3 (Nat.le_of_ble_eq_true rfl) ?_
  exact h0
set_option maxRecDepth 4000 in
theorem b_25_5 {mc ms : Nat} {X : Option (Nat × (Nat → Int32))} {T : aj_Tt} {Q : aj_Q} {J : aj_J} (hJ : aj_Cl 1 c_25 (none) false mc ms X T Q J) {o0 : Nat} {x1 : Int64} {w2 : Option Value} {w3 : Option Value} {x4 : Int32} {q0 : Nat} {nk1 : Nat} {Z : aj_Z} {I : aj_I} {G : aj_G} {C : Nat × Nat} (h0 : x4 < 0 → Q none Z I G) (k0 : Z.2.1 o0 = some (.inl 1)) (r0 : Z.2.2 o0 6 = .ref q0) (k1 : Z.2.1 q0 = some (.inr (0, nk1))) (h1 : ¬ x4 < 0 → vp_in (I o0 5) nk1) (h2 : ¬ x4 < 0 → J 5 [some (.ref o0), some (.long x1), w2, (aj_clr w3), some (.int (x4 + (-1)))] [] Z (aj_u2 (aj_u2 I q0 (Int32.toNatClampNeg (I o0 5)) (Int64.toInt32 ((x1 >>> (Int32.toInt64 (8 * x4) &&& 63)) &&& 255))) o0 5 (((aj_u2 I q0 (Int32.toNatClampNeg (I o0 5)) (Int64.toInt32 ((x1 >>> (Int32.toInt64 (8 * x4) &&& 63)) &&& 255))) o0 5) + 1)) G C) : J 5 [some (.ref o0), some (.long x1), w2, w3, some (.int x4)] [] Z I G C := by
  refine s_iload hJ d_25_5 rfl ?_
  refine s_if_lt (tgt := 47) hJ d_25_7 rfl (fun c0 => ?_) (fun c0 => ?_)
  · skip
    exact s_vret hJ d_25_47 rfl (h0 c0)
  · skip
    refine s_aload_n hJ d_25_10 rfl ?_
    refine s_getr hJ lf_1_23 rfl d_25_11 k0 r0 ?_
    refine s_aload_n hJ d_25_14 rfl ?_
    refine s_geti hJ lf_1_71 rfl d_25_15 k0 ?_
    refine s_lload_n hJ d_25_18 rfl ?_
    refine s_bipush (v := 8) hJ d_25_19 (by decide) ?_
    refine s_iload hJ d_25_21 rfl ?_
    refine s_imul hJ d_25_23 ?_
    refine s_lshr hJ d_25_24 ?_
    refine s_ldc2 hJ ll_1_74 d_25_25 ?_
    refine s_land hJ d_25_28 ?_
    refine s_l2i hJ d_25_29 ?_
    refine s_iast hJ d_25_30 k1 (h1 c0) ?_
    refine s_aload_n hJ d_25_31 rfl ?_
    refine s_aload_n hJ d_25_32 rfl ?_
    refine s_geti hJ lf_1_71 rfl d_25_33 k0 ?_
    refine s_iconst_1 hJ d_25_36 ?_
    refine s_iadd hJ d_25_37 ?_
    refine s_puti hJ lf_1_71 rfl d_25_38 k0 ?_
    refine s_iinc (v := (-1)) hJ d_25_41 rfl (by decide) ?_
    refine s_goto (tgt := 5) hJ d_25_44 rfl ?_
    exact h2 c0
-- ReelOfBoxesModel.head(II)V : method 26
theorem d_26_0 : decode c_26 0 = .ok (.aload_n 0, 1) := by decide +kernel
theorem d_26_1 : decode c_26 1 = .ok (.iload_n 1, 1) := by decide +kernel
theorem d_26_2 : decode c_26 2 = .ok (.i2l, 1) := by decide +kernel
theorem d_26_3 : decode c_26 3 = .ok (.iconst (4), 1) := by decide +kernel
theorem d_26_4 : decode c_26 4 = .ok (.invokevirtual 76, 3) := by decide +kernel
theorem d_26_7 : decode c_26 7 = .ok (.aload_n 0, 1) := by decide +kernel
theorem d_26_8 : decode c_26 8 = .ok (.iload_n 2, 1) := by decide +kernel
theorem d_26_9 : decode c_26 9 = .ok (.i2l, 1) := by decide +kernel
theorem d_26_10 : decode c_26 10 = .ok (.iconst (4), 1) := by decide +kernel
theorem d_26_11 : decode c_26 11 = .ok (.invokevirtual 76, 3) := by decide +kernel
theorem d_26_14 : decode c_26 14 = .ok (.return_, 1) := by decide +kernel
set_option maxRecDepth 4000 in
theorem b_26_0 {mc ms : Nat} {X : Option (Nat × (Nat → Int32))} {T : aj_Tt} {Q : aj_Q} {J : aj_J} (hJ : aj_Cl 1 c_26 (none) false mc ms X T Q J) {o0 : Nat} {x1 : Int32} {x2 : Int32} {Z : aj_Z} {I : aj_I} {G : aj_G} {C : Nat × Nat} (k0 : Z.2.1 o0 = some (.inl 1)) (h0 : T 0 0 25 [.ref o0, .long (Int32.toInt64 x1), .int 4] Z I G (fun r Z1 I1 G1 => J 7 [some (.ref o0), some (.int x1), some (.int x2)] (r.toList ++ []) Z1 I1 G1 C)) : J 0 [some (.ref o0), some (.int x1), some (.int x2)] [] Z I G C := by
  refine s_aload_n hJ d_26_0 rfl ?_
  refine s_iload_n hJ d_26_1 rfl ?_
  refine s_i2l hJ d_26_2 ?_
  refine s_iconst_4 hJ d_26_3 ?_
  exact s_V2 hJ lm_1_76 d_26_4 (Nat.le_of_ble_eq_true rfl) k0 (h0)
set_option maxRecDepth 4000 in
theorem b_26_7 {mc ms : Nat} {X : Option (Nat × (Nat → Int32))} {T : aj_Tt} {Q : aj_Q} {J : aj_J} (hJ : aj_Cl 1 c_26 (none) false mc ms X T Q J) {o0 : Nat} {w1 : Option Value} {x2 : Int32} {Z : aj_Z} {I : aj_I} {G : aj_G} {C : Nat × Nat} (k0 : Z.2.1 o0 = some (.inl 1)) (h0 : T 0 0 25 [.ref o0, .long (Int32.toInt64 x2), .int 4] Z I G (fun r Z1 I1 G1 => J 14 [some (.ref o0), w1, some (.int x2)] (r.toList ++ []) Z1 I1 G1 C)) : J 7 [some (.ref o0), w1, some (.int x2)] [] Z I G C := by
  refine s_aload_n hJ d_26_7 rfl ?_
  refine s_iload_n hJ d_26_8 rfl ?_
  refine s_i2l hJ d_26_9 ?_
  refine s_iconst_4 hJ d_26_10 ?_
  exact s_V2 hJ lm_1_76 d_26_11 (Nat.le_of_ble_eq_true rfl) k0 (h0)
set_option maxRecDepth 4000 in
theorem b_26_14 {mc ms : Nat} {X : Option (Nat × (Nat → Int32))} {T : aj_Tt} {Q : aj_Q} {J : aj_J} (hJ : aj_Cl 1 c_26 (none) false mc ms X T Q J) {w0 : Option Value} {w1 : Option Value} {w2 : Option Value} {Z : aj_Z} {I : aj_I} {G : aj_G} {C : Nat × Nat} (h0 : Q none Z I G) : J 14 [w0, w1, w2] [] Z I G C := by
  exact s_vret hJ d_26_14 rfl (h0)
-- ReelOfBoxesModel.chunksOf(II)I : method 27
theorem d_27_0 : decode c_27 0 = .ok (.aload_n 0, 1) := by decide +kernel
theorem d_27_1 : decode c_27 1 = .ok (.getfield 7, 3) := by decide +kernel
theorem d_27_4 : decode c_27 4 = .ok (.iload_n 1, 1) := by decide +kernel
theorem d_27_5 : decode c_27 5 = .ok (.iaload, 1) := by decide +kernel
theorem d_27_6 : decode c_27 6 = .ok (.iload_n 2, 1) := by decide +kernel
theorem d_27_7 : decode c_27 7 = .ok (.iadd, 1) := by decide +kernel
theorem d_27_8 : decode c_27 8 = .ok (.iconst (1), 1) := by decide +kernel
theorem d_27_9 : decode c_27 9 = .ok (.isub, 1) := by decide +kernel
theorem d_27_10 : decode c_27 10 = .ok (.iload_n 2, 1) := by decide +kernel
theorem d_27_11 : decode c_27 11 = .ok (.idiv, 1) := by decide +kernel
theorem d_27_12 : decode c_27 12 = .ok (.ireturn, 1) := by decide +kernel
set_option maxRecDepth 4000 in
theorem b_27_0 {mc ms : Nat} {X : Option (Nat × (Nat → Int32))} {T : aj_Tt} {Q : aj_Q} {J : aj_J} (hJ : aj_Cl 1 c_27 (some .int) false mc ms X T Q J) {o0 : Nat} {x1 : Int32} {x2 : Int32} {q0 : Nat} {nk1 : Nat} {Z : aj_Z} {I : aj_I} {G : aj_G} {C : Nat × Nat} (k0 : Z.2.1 o0 = some (.inl 1)) (r0 : Z.2.2 o0 1 = .ref q0) (k1 : Z.2.1 q0 = some (.inr (0, nk1))) (h0 : vp_in x1 nk1) (h1 : ¬ x2 = 0) (h2 : Q (some (.int ((((I q0 (Int32.toNatClampNeg x1)) + x2) - 1) / x2))) Z I G) : J 0 [some (.ref o0), some (.int x1), some (.int x2)] [] Z I G C := by
  refine s_aload_n hJ d_27_0 rfl ?_
  refine s_getr hJ lf_1_7 rfl d_27_1 k0 r0 ?_
  refine s_iload_n hJ d_27_4 rfl ?_
  refine s_iald hJ d_27_5 k1 (h0) ?_
  refine s_iload_n hJ d_27_6 rfl ?_
  refine s_iadd hJ d_27_7 ?_
  refine s_iconst_1 hJ d_27_8 ?_
  refine s_isub hJ d_27_9 ?_
  refine s_iload_n hJ d_27_10 rfl ?_
  refine s_idiv hJ d_27_11 (h1) ?_
  exact s_iret hJ d_27_12 rfl rfl (h2)
-- ReelOfBoxesModel.chunkSize(III)I : method 28
theorem d_28_0 : decode c_28 0 = .ok (.aload_n 0, 1) := by decide +kernel
theorem d_28_1 : decode c_28 1 = .ok (.getfield 7, 3) := by decide +kernel
theorem d_28_4 : decode c_28 4 = .ok (.iload_n 1, 1) := by decide +kernel
theorem d_28_5 : decode c_28 5 = .ok (.iaload, 1) := by decide +kernel
theorem d_28_6 : decode c_28 6 = .ok (.iload_n 3, 1) := by decide +kernel
theorem d_28_7 : decode c_28 7 = .ok (.iload_n 2, 1) := by decide +kernel
theorem d_28_8 : decode c_28 8 = .ok (.imul, 1) := by decide +kernel
theorem d_28_9 : decode c_28 9 = .ok (.isub, 1) := by decide +kernel
theorem d_28_10 : decode c_28 10 = .ok (.istore 4, 2) := by decide +kernel
theorem d_28_12 : decode c_28 12 = .ok (.iload 4, 2) := by decide +kernel
theorem d_28_14 : decode c_28 14 = .ok (.ifCond .ge (7), 3) := by decide +kernel
theorem d_28_17 : decode c_28 17 = .ok (.iconst (0), 1) := by decide +kernel
theorem d_28_18 : decode c_28 18 = .ok (.goto (15), 3) := by decide +kernel
theorem d_28_21 : decode c_28 21 = .ok (.iload 4, 2) := by decide +kernel
theorem d_28_23 : decode c_28 23 = .ok (.iload_n 2, 1) := by decide +kernel
theorem d_28_24 : decode c_28 24 = .ok (.if_icmp .ge (8), 3) := by decide +kernel
theorem d_28_27 : decode c_28 27 = .ok (.iload 4, 2) := by decide +kernel
theorem d_28_29 : decode c_28 29 = .ok (.goto (4), 3) := by decide +kernel
theorem d_28_32 : decode c_28 32 = .ok (.iload_n 2, 1) := by decide +kernel
theorem d_28_33 : decode c_28 33 = .ok (.ireturn, 1) := by decide +kernel
set_option maxRecDepth 4000 in
theorem b_28_0 {mc ms : Nat} {X : Option (Nat × (Nat → Int32))} {T : aj_Tt} {Q : aj_Q} {J : aj_J} (hJ : aj_Cl 1 c_28 (some .int) false mc ms X T Q J) {o0 : Nat} {x1 : Int32} {x2 : Int32} {x3 : Int32} {q0 : Nat} {nk1 : Nat} {Z : aj_Z} {I : aj_I} {G : aj_G} {C : Nat × Nat} (k0 : Z.2.1 o0 = some (.inl 1)) (r0 : Z.2.2 o0 1 = .ref q0) (k1 : Z.2.1 q0 = some (.inr (0, nk1))) (h0 : vp_in x1 nk1) (h1 : 0 ≤ ((I q0 (Int32.toNatClampNeg x1)) - (x3 * x2)) → x2 ≤ ((I q0 (Int32.toNatClampNeg x1)) - (x3 * x2)) → Q (some (.int x2)) Z I G) (h2 : 0 ≤ ((I q0 (Int32.toNatClampNeg x1)) - (x3 * x2)) → ¬ x2 ≤ ((I q0 (Int32.toNatClampNeg x1)) - (x3 * x2)) → Q (some (.int ((I q0 (Int32.toNatClampNeg x1)) - (x3 * x2)))) Z I G) (h3 : ¬ 0 ≤ ((I q0 (Int32.toNatClampNeg x1)) - (x3 * x2)) → Q (some (.int 0)) Z I G) : J 0 [some (.ref o0), some (.int x1), some (.int x2), some (.int x3), none] [] Z I G C := by
  refine s_aload_n hJ d_28_0 rfl ?_
  refine s_getr hJ lf_1_7 rfl d_28_1 k0 r0 ?_
  refine s_iload_n hJ d_28_4 rfl ?_
  refine s_iald hJ d_28_5 k1 (h0) ?_
  refine s_iload_n hJ d_28_6 rfl ?_
  refine s_iload_n hJ d_28_7 rfl ?_
  refine s_imul hJ d_28_8 ?_
  refine s_isub hJ d_28_9 ?_
  refine s_istore hJ d_28_10 (Nat.le_of_ble_eq_true rfl) ?_
  refine s_iload hJ d_28_12 rfl ?_
  refine s_if_ge (tgt := 21) hJ d_28_14 rfl (fun c0 => ?_) (fun c0 => ?_)
  · skip
    refine s_iload hJ d_28_21 rfl ?_
    refine s_iload_n hJ d_28_23 rfl ?_
    refine s_icmp_ge (tgt := 32) hJ d_28_24 rfl (fun c1 => ?_) (fun c1 => ?_)
    · skip
      refine s_iload_n hJ d_28_32 rfl ?_
      exact s_iret hJ d_28_33 rfl rfl (h1 c0 c1)
    · skip
      refine s_iload hJ d_28_27 rfl ?_
      refine s_goto (tgt := 33) hJ d_28_29 rfl ?_
      exact s_iret hJ d_28_33 rfl rfl (h2 c0 c1)
  · skip
    refine s_iconst_0 hJ d_28_17 ?_
    refine s_goto (tgt := 33) hJ d_28_18 rfl ?_
    exact s_iret hJ d_28_33 rfl rfl (h3 c0)
-- ReelOfBoxesModel.rowsOf(I)I : method 29
theorem d_29_0 : decode c_29 0 = .ok (.iconst (0), 1) := by decide +kernel
theorem d_29_1 : decode c_29 1 = .ok (.istore_n 2, 1) := by decide +kernel
theorem d_29_2 : decode c_29 2 = .ok (.iconst (0), 1) := by decide +kernel
theorem d_29_3 : decode c_29 3 = .ok (.istore_n 3, 1) := by decide +kernel
theorem d_29_4 : decode c_29 4 = .ok (.iload_n 3, 1) := by decide +kernel
theorem d_29_5 : decode c_29 5 = .ok (.aload_n 0, 1) := by decide +kernel
theorem d_29_6 : decode c_29 6 = .ok (.getfield 7, 3) := by decide +kernel
theorem d_29_9 : decode c_29 9 = .ok (.iload_n 1, 1) := by decide +kernel
theorem d_29_10 : decode c_29 10 = .ok (.iaload, 1) := by decide +kernel
theorem d_29_11 : decode c_29 11 = .ok (.if_icmp .ge (48), 3) := by decide +kernel
theorem d_29_14 : decode c_29 14 = .ok (.iload_n 3, 1) := by decide +kernel
theorem d_29_15 : decode c_29 15 = .ok (.ifCond .eq (30), 3) := by decide +kernel
theorem d_29_18 : decode c_29 18 = .ok (.aload_n 0, 1) := by decide +kernel
theorem d_29_19 : decode c_29 19 = .ok (.getfield 13, 3) := by decide +kernel
theorem d_29_22 : decode c_29 22 = .ok (.bipush (16), 2) := by decide +kernel
theorem d_29_24 : decode c_29 24 = .ok (.iload_n 1, 1) := by decide +kernel
theorem d_29_25 : decode c_29 25 = .ok (.imul, 1) := by decide +kernel
theorem d_29_26 : decode c_29 26 = .ok (.iload_n 3, 1) := by decide +kernel
theorem d_29_27 : decode c_29 27 = .ok (.iadd, 1) := by decide +kernel
theorem d_29_28 : decode c_29 28 = .ok (.iaload, 1) := by decide +kernel
theorem d_29_29 : decode c_29 29 = .ok (.aload_n 0, 1) := by decide +kernel
theorem d_29_30 : decode c_29 30 = .ok (.getfield 13, 3) := by decide +kernel
theorem d_29_33 : decode c_29 33 = .ok (.bipush (16), 2) := by decide +kernel
theorem d_29_35 : decode c_29 35 = .ok (.iload_n 1, 1) := by decide +kernel
theorem d_29_36 : decode c_29 36 = .ok (.imul, 1) := by decide +kernel
theorem d_29_37 : decode c_29 37 = .ok (.iload_n 3, 1) := by decide +kernel
theorem d_29_38 : decode c_29 38 = .ok (.iadd, 1) := by decide +kernel
theorem d_29_39 : decode c_29 39 = .ok (.iconst (1), 1) := by decide +kernel
theorem d_29_40 : decode c_29 40 = .ok (.isub, 1) := by decide +kernel
theorem d_29_41 : decode c_29 41 = .ok (.iaload, 1) := by decide +kernel
theorem d_29_42 : decode c_29 42 = .ok (.if_icmp .eq (9), 3) := by decide +kernel
theorem d_29_45 : decode c_29 45 = .ok (.iload_n 2, 1) := by decide +kernel
theorem d_29_46 : decode c_29 46 = .ok (.iconst (1), 1) := by decide +kernel
theorem d_29_47 : decode c_29 47 = .ok (.iadd, 1) := by decide +kernel
theorem d_29_48 : decode c_29 48 = .ok (.goto (4), 3) := by decide +kernel
theorem d_29_51 : decode c_29 51 = .ok (.iload_n 2, 1) := by decide +kernel
theorem d_29_52 : decode c_29 52 = .ok (.istore_n 2, 1) := by decide +kernel
theorem d_29_53 : decode c_29 53 = .ok (.iinc 3 (1), 3) := by decide +kernel
theorem d_29_56 : decode c_29 56 = .ok (.goto (-52), 3) := by decide +kernel
theorem d_29_59 : decode c_29 59 = .ok (.iload_n 2, 1) := by decide +kernel
theorem d_29_60 : decode c_29 60 = .ok (.ireturn, 1) := by decide +kernel
set_option maxRecDepth 4000 in
theorem b_29_0 {mc ms : Nat} {X : Option (Nat × (Nat → Int32))} {T : aj_Tt} {Q : aj_Q} {J : aj_J} (hJ : aj_Cl 1 c_29 (some .int) false mc ms X T Q J) {o0 : Nat} {x1 : Int32} {Z : aj_Z} {I : aj_I} {G : aj_G} {C : Nat × Nat} (h0 : J 4 [some (.ref o0), some (.int x1), some (.int 0), some (.int 0)] [] Z I G C) : J 0 [some (.ref o0), some (.int x1), none, none] [] Z I G C := by
  refine s_iconst_0 hJ d_29_0 ?_
  refine s_istore_n hJ d_29_1 (Nat.le_of_ble_eq_true rfl) ?_
  refine s_iconst_0 hJ d_29_2 ?_
  refine s_istore_n hJ d_29_3 (Nat.le_of_ble_eq_true rfl) ?_
  exact h0
set_option maxRecDepth 4000 in
theorem b_29_4 {mc ms : Nat} {X : Option (Nat × (Nat → Int32))} {T : aj_Tt} {Q : aj_Q} {J : aj_J} (hJ : aj_Cl 1 c_29 (some .int) false mc ms X T Q J) {o0 : Nat} {x1 : Int32} {x2 : Int32} {x3 : Int32} {q0 : Nat} {nk1 : Nat} {q1 : Nat} {nk3 : Nat} {Z : aj_Z} {I : aj_I} {G : aj_G} {C : Nat × Nat} (k0 : Z.2.1 o0 = some (.inl 1)) (r0 : Z.2.2 o0 1 = .ref q0) (k1 : Z.2.1 q0 = some (.inr (0, nk1))) (h0 : vp_in x1 nk1) (h1 : (I q0 (Int32.toNatClampNeg x1)) ≤ x3 → Q (some (.int x2)) Z I G) (h2 : ¬ (I q0 (Int32.toNatClampNeg x1)) ≤ x3 → x3 = 0 → J 45 [some (.ref o0), some (.int x1), some (.int x2), some (.int x3)] [] Z I G C) (r1 : Z.2.2 o0 2 = .ref q1) (k3 : Z.2.1 q1 = some (.inr (0, nk3))) (h3 : ¬ (I q0 (Int32.toNatClampNeg x1)) ≤ x3 → ¬ x3 = 0 → vp_in ((16 * x1) + x3) nk3) (h4 : ¬ (I q0 (Int32.toNatClampNeg x1)) ≤ x3 → ¬ x3 = 0 → vp_in (((16 * x1) + x3) - 1) nk3) (h5 : ¬ (I q0 (Int32.toNatClampNeg x1)) ≤ x3 → ¬ x3 = 0 → (I q1 (Int32.toNatClampNeg ((16 * x1) + x3))) = (I q1 (Int32.toNatClampNeg (((16 * x1) + x3) - 1))) → J 4 [some (.ref o0), some (.int x1), some (.int x2), some (.int (x3 + 1))] [] Z I G C) (h6 : ¬ (I q0 (Int32.toNatClampNeg x1)) ≤ x3 → ¬ x3 = 0 → ¬ (I q1 (Int32.toNatClampNeg ((16 * x1) + x3))) = (I q1 (Int32.toNatClampNeg (((16 * x1) + x3) - 1))) → J 45 [some (.ref o0), some (.int x1), some (.int x2), some (.int x3)] [] Z I G C) : J 4 [some (.ref o0), some (.int x1), some (.int x2), some (.int x3)] [] Z I G C := by
  refine s_iload_n hJ d_29_4 rfl ?_
  refine s_aload_n hJ d_29_5 rfl ?_
  refine s_getr hJ lf_1_7 rfl d_29_6 k0 r0 ?_
  refine s_iload_n hJ d_29_9 rfl ?_
  refine s_iald hJ d_29_10 k1 (h0) ?_
  refine s_icmp_ge (tgt := 59) hJ d_29_11 rfl (fun c0 => ?_) (fun c0 => ?_)
  · skip
    refine s_iload_n hJ d_29_59 rfl ?_
    exact s_iret hJ d_29_60 rfl rfl (h1 c0)
  · skip
    refine s_iload_n hJ d_29_14 rfl ?_
    refine s_if_eq (tgt := 45) hJ d_29_15 rfl (fun c1 => ?_) (fun c1 => ?_)
    · skip
      exact h2 c0 c1
    · skip
      refine s_aload_n hJ d_29_18 rfl ?_
      refine s_getr hJ lf_1_13 rfl d_29_19 k0 r1 ?_
      refine s_bipush (v := 16) hJ d_29_22 (by decide) ?_
      refine s_iload_n hJ d_29_24 rfl ?_
      refine s_imul hJ d_29_25 ?_
      refine s_iload_n hJ d_29_26 rfl ?_
      refine s_iadd hJ d_29_27 ?_
      refine s_iald hJ d_29_28 k3 (h3 c0 c1) ?_
      refine s_aload_n hJ d_29_29 rfl ?_
      refine s_getr hJ lf_1_13 rfl d_29_30 k0 r1 ?_
      refine s_bipush (v := 16) hJ d_29_33 (by decide) ?_
      refine s_iload_n hJ d_29_35 rfl ?_
      refine s_imul hJ d_29_36 ?_
      refine s_iload_n hJ d_29_37 rfl ?_
      refine s_iadd hJ d_29_38 ?_
      refine s_iconst_1 hJ d_29_39 ?_
      refine s_isub hJ d_29_40 ?_
      refine s_iald hJ d_29_41 k3 (h4 c0 c1) ?_
      refine s_icmp_eq (tgt := 51) hJ d_29_42 rfl (fun c2 => ?_) (fun c2 => ?_)
      · skip
        refine s_iload_n hJ d_29_51 rfl ?_
        refine s_istore_n hJ d_29_52 (Nat.le_of_ble_eq_true rfl) ?_
        refine s_iinc (v := 1) hJ d_29_53 rfl (by decide) ?_
        refine s_goto (tgt := 4) hJ d_29_56 rfl ?_
        exact h5 c0 c1 c2
      · skip
        exact h6 c0 c1 c2
set_option maxRecDepth 4000 in
theorem b_29_45 {mc ms : Nat} {X : Option (Nat × (Nat → Int32))} {T : aj_Tt} {Q : aj_Q} {J : aj_J} (hJ : aj_Cl 1 c_29 (some .int) false mc ms X T Q J) {o0 : Nat} {x1 : Int32} {x2 : Int32} {x3 : Int32} {Z : aj_Z} {I : aj_I} {G : aj_G} {C : Nat × Nat} (h0 : J 4 [some (.ref o0), some (.int x1), some (.int (x2 + 1)), some (.int (x3 + 1))] [] Z I G C) : J 45 [some (.ref o0), some (.int x1), some (.int x2), some (.int x3)] [] Z I G C := by
  refine s_iload_n hJ d_29_45 rfl ?_
  refine s_iconst_1 hJ d_29_46 ?_
  refine s_iadd hJ d_29_47 ?_
  refine s_goto (tgt := 52) hJ d_29_48 rfl ?_
  refine s_istore_n hJ d_29_52 (Nat.le_of_ble_eq_true rfl) ?_
  refine s_iinc (v := 1) hJ d_29_53 rfl (by decide) ?_
  refine s_goto (tgt := 4) hJ d_29_56 rfl ?_
  exact h0
-- ReelOfBoxesModel.turnsOf(II)I : method 30
theorem d_30_0 : decode c_30 0 = .ok (.aload_n 0, 1) := by decide +kernel
theorem d_30_1 : decode c_30 1 = .ok (.iload_n 1, 1) := by decide +kernel
theorem d_30_2 : decode c_30 2 = .ok (.iload_n 2, 1) := by decide +kernel
theorem d_30_3 : decode c_30 3 = .ok (.invokevirtual 80, 3) := by decide +kernel
theorem d_30_6 : decode c_30 6 = .ok (.istore_n 3, 1) := by decide +kernel
theorem d_30_7 : decode c_30 7 = .ok (.iload_n 3, 1) := by decide +kernel
theorem d_30_8 : decode c_30 8 = .ok (.iconst (2), 1) := by decide +kernel
theorem d_30_9 : decode c_30 9 = .ok (.if_icmp .ge (7), 3) := by decide +kernel
theorem d_30_12 : decode c_30 12 = .ok (.iload_n 3, 1) := by decide +kernel
theorem d_30_13 : decode c_30 13 = .ok (.goto (21), 3) := by decide +kernel
theorem d_30_16 : decode c_30 16 = .ok (.aload_n 0, 1) := by decide +kernel
theorem d_30_17 : decode c_30 17 = .ok (.iload_n 1, 1) := by decide +kernel
theorem d_30_18 : decode c_30 18 = .ok (.iload_n 2, 1) := by decide +kernel
theorem d_30_19 : decode c_30 19 = .ok (.iload_n 3, 1) := by decide +kernel
theorem d_30_20 : decode c_30 20 = .ok (.iconst (1), 1) := by decide +kernel
theorem d_30_21 : decode c_30 21 = .ok (.isub, 1) := by decide +kernel
theorem d_30_22 : decode c_30 22 = .ok (.invokevirtual 84, 3) := by decide +kernel
theorem d_30_25 : decode c_30 25 = .ok (.iload_n 2, 1) := by decide +kernel
theorem d_30_26 : decode c_30 26 = .ok (.if_icmp .ge (7), 3) := by decide +kernel
theorem d_30_29 : decode c_30 29 = .ok (.iconst (2), 1) := by decide +kernel
theorem d_30_30 : decode c_30 30 = .ok (.goto (4), 3) := by decide +kernel
theorem d_30_33 : decode c_30 33 = .ok (.iconst (1), 1) := by decide +kernel
theorem d_30_34 : decode c_30 34 = .ok (.ireturn, 1) := by decide +kernel
set_option maxRecDepth 4000 in
theorem b_30_0 {mc ms : Nat} {X : Option (Nat × (Nat → Int32))} {T : aj_Tt} {Q : aj_Q} {J : aj_J} (hJ : aj_Cl 1 c_30 (some .int) false mc ms X T Q J) {o0 : Nat} {x1 : Int32} {x2 : Int32} {Z : aj_Z} {I : aj_I} {G : aj_G} {C : Nat × Nat} (k0 : Z.2.1 o0 = some (.inl 1)) (h0 : T 0 0 27 [.ref o0, .int x1, .int x2] Z I G (fun r Z1 I1 G1 => J 6 [some (.ref o0), some (.int x1), some (.int x2), none] (r.toList ++ []) Z1 I1 G1 C)) : J 0 [some (.ref o0), some (.int x1), some (.int x2), none] [] Z I G C := by
  refine s_aload_n hJ d_30_0 rfl ?_
  refine s_iload_n hJ d_30_1 rfl ?_
  refine s_iload_n hJ d_30_2 rfl ?_
  exact s_V2 hJ lm_1_80 d_30_3 (Nat.le_of_ble_eq_true rfl) k0 (h0)
set_option maxRecDepth 4000 in
theorem b_30_6 {mc ms : Nat} {X : Option (Nat × (Nat → Int32))} {T : aj_Tt} {Q : aj_Q} {J : aj_J} (hJ : aj_Cl 1 c_30 (some .int) false mc ms X T Q J) {o0 : Nat} {x1 : Int32} {x2 : Int32} {w3 : Option Value} {s0 : Int32} {Z : aj_Z} {I : aj_I} {G : aj_G} {C : Nat × Nat} (k0 : Z.2.1 o0 = some (.inl 1)) (h0 : 2 ≤ s0 → T 0 0 28 [.ref o0, .int x1, .int x2, .int (s0 - 1)] Z I G (fun r Z1 I1 G1 => J 25 [some (.ref o0), some (.int x1), some (.int x2), some (.int s0)] (r.toList ++ []) Z1 I1 G1 C)) (h1 : ¬ 2 ≤ s0 → Q (some (.int s0)) Z I G) : J 6 [some (.ref o0), some (.int x1), some (.int x2), w3] [.int s0] Z I G C := by
  refine s_istore_n hJ d_30_6 (Nat.le_of_ble_eq_true rfl) ?_
  refine s_iload_n hJ d_30_7 rfl ?_
  refine s_iconst_2 hJ d_30_8 ?_
  refine s_icmp_ge (tgt := 16) hJ d_30_9 rfl (fun c0 => ?_) (fun c0 => ?_)
  · skip
    refine s_aload_n hJ d_30_16 rfl ?_
    refine s_iload_n hJ d_30_17 rfl ?_
    refine s_iload_n hJ d_30_18 rfl ?_
    refine s_iload_n hJ d_30_19 rfl ?_
    refine s_iconst_1 hJ d_30_20 ?_
    refine s_isub hJ d_30_21 ?_
    exact s_V3 hJ lm_1_84 d_30_22 (Nat.le_of_ble_eq_true rfl) k0 (h0 c0)
  · skip
    refine s_iload_n hJ d_30_12 rfl ?_
    refine s_goto (tgt := 34) hJ d_30_13 rfl ?_
    exact s_iret hJ d_30_34 rfl rfl (h1 c0)
set_option maxRecDepth 4000 in
theorem b_30_25 {mc ms : Nat} {X : Option (Nat × (Nat → Int32))} {T : aj_Tt} {Q : aj_Q} {J : aj_J} (hJ : aj_Cl 1 c_30 (some .int) false mc ms X T Q J) {w0 : Option Value} {w1 : Option Value} {x2 : Int32} {w3 : Option Value} {s0 : Int32} {Z : aj_Z} {I : aj_I} {G : aj_G} {C : Nat × Nat} (h0 : x2 ≤ s0 → Q (some (.int 1)) Z I G) (h1 : ¬ x2 ≤ s0 → Q (some (.int 2)) Z I G) : J 25 [w0, w1, some (.int x2), w3] [.int s0] Z I G C := by
  refine s_iload_n hJ d_30_25 rfl ?_
  refine s_icmp_ge (tgt := 33) hJ d_30_26 rfl (fun c0 => ?_) (fun c0 => ?_)
  · skip
    refine s_iconst_1 hJ d_30_33 ?_
    exact s_iret hJ d_30_34 rfl rfl (h0 c0)
  · skip
    refine s_iconst_2 hJ d_30_29 ?_
    refine s_goto (tgt := 34) hJ d_30_30 rfl ?_
    exact s_iret hJ d_30_34 rfl rfl (h1 c0)
-- ReelOfBoxesModel.stblSize(IIZ)I : method 31
theorem d_31_0 : decode c_31 0 = .ok (.bipush (24), 2) := by decide +kernel
theorem d_31_2 : decode c_31 2 = .ok (.bipush (8), 2) := by decide +kernel
theorem d_31_4 : decode c_31 4 = .ok (.aload_n 0, 1) := by decide +kernel
theorem d_31_5 : decode c_31 5 = .ok (.iload_n 1, 1) := by decide +kernel
theorem d_31_6 : decode c_31 6 = .ok (.invokevirtual 88, 3) := by decide +kernel
theorem d_31_9 : decode c_31 9 = .ok (.imul, 1) := by decide +kernel
theorem d_31_10 : decode c_31 10 = .ok (.iadd, 1) := by decide +kernel
theorem d_31_11 : decode c_31 11 = .ok (.bipush (16), 2) := by decide +kernel
theorem d_31_13 : decode c_31 13 = .ok (.iadd, 1) := by decide +kernel
theorem d_31_14 : decode c_31 14 = .ok (.bipush (12), 2) := by decide +kernel
theorem d_31_16 : decode c_31 16 = .ok (.aload_n 0, 1) := by decide +kernel
theorem d_31_17 : decode c_31 17 = .ok (.iload_n 1, 1) := by decide +kernel
theorem d_31_18 : decode c_31 18 = .ok (.iload_n 2, 1) := by decide +kernel
theorem d_31_19 : decode c_31 19 = .ok (.invokevirtual 92, 3) := by decide +kernel
theorem d_31_22 : decode c_31 22 = .ok (.imul, 1) := by decide +kernel
theorem d_31_23 : decode c_31 23 = .ok (.iadd, 1) := by decide +kernel
theorem d_31_24 : decode c_31 24 = .ok (.bipush (20), 2) := by decide +kernel
theorem d_31_26 : decode c_31 26 = .ok (.iadd, 1) := by decide +kernel
theorem d_31_27 : decode c_31 27 = .ok (.iconst (4), 1) := by decide +kernel
theorem d_31_28 : decode c_31 28 = .ok (.aload_n 0, 1) := by decide +kernel
theorem d_31_29 : decode c_31 29 = .ok (.getfield 7, 3) := by decide +kernel
theorem d_31_32 : decode c_31 32 = .ok (.iload_n 1, 1) := by decide +kernel
theorem d_31_33 : decode c_31 33 = .ok (.iaload, 1) := by decide +kernel
theorem d_31_34 : decode c_31 34 = .ok (.imul, 1) := by decide +kernel
theorem d_31_35 : decode c_31 35 = .ok (.iadd, 1) := by decide +kernel
theorem d_31_36 : decode c_31 36 = .ok (.bipush (16), 2) := by decide +kernel
theorem d_31_38 : decode c_31 38 = .ok (.iadd, 1) := by decide +kernel
theorem d_31_39 : decode c_31 39 = .ok (.iload_n 3, 1) := by decide +kernel
theorem d_31_40 : decode c_31 40 = .ok (.ifCond .eq (8), 3) := by decide +kernel
theorem d_31_43 : decode c_31 43 = .ok (.bipush (8), 2) := by decide +kernel
theorem d_31_45 : decode c_31 45 = .ok (.goto (4), 3) := by decide +kernel
theorem d_31_48 : decode c_31 48 = .ok (.iconst (4), 1) := by decide +kernel
theorem d_31_49 : decode c_31 49 = .ok (.aload_n 0, 1) := by decide +kernel
theorem d_31_50 : decode c_31 50 = .ok (.iload_n 1, 1) := by decide +kernel
theorem d_31_51 : decode c_31 51 = .ok (.iload_n 2, 1) := by decide +kernel
theorem d_31_52 : decode c_31 52 = .ok (.invokevirtual 80, 3) := by decide +kernel
theorem d_31_55 : decode c_31 55 = .ok (.imul, 1) := by decide +kernel
theorem d_31_56 : decode c_31 56 = .ok (.iadd, 1) := by decide +kernel
theorem d_31_57 : decode c_31 57 = .ok (.ireturn, 1) := by decide +kernel
set_option maxRecDepth 4000 in
theorem b_31_0 {mc ms : Nat} {X : Option (Nat × (Nat → Int32))} {T : aj_Tt} {Q : aj_Q} {J : aj_J} (hJ : aj_Cl 1 c_31 (some .int) false mc ms X T Q J) {o0 : Nat} {x1 : Int32} {x2 : Int32} {x3 : Int32} {Z : aj_Z} {I : aj_I} {G : aj_G} {C : Nat × Nat} (k0 : Z.2.1 o0 = some (.inl 1)) (h0 : T 0 0 29 [.ref o0, .int x1] Z I G (fun r Z1 I1 G1 => J 9 [some (.ref o0), some (.int x1), some (.int x2), some (.int x3)] (r.toList ++ [.int 8, .int 24]) Z1 I1 G1 C)) : J 0 [some (.ref o0), some (.int x1), some (.int x2), some (.int x3)] [] Z I G C := by
  refine s_bipush (v := 24) hJ d_31_0 (by decide) ?_
  refine s_bipush (v := 8) hJ d_31_2 (by decide) ?_
  refine s_aload_n hJ d_31_4 rfl ?_
  refine s_iload_n hJ d_31_5 rfl ?_
  exact s_V1 hJ lm_1_88 d_31_6 (Nat.le_of_ble_eq_true rfl) k0 (h0)
set_option maxRecDepth 4000 in
theorem b_31_9 {mc ms : Nat} {X : Option (Nat × (Nat → Int32))} {T : aj_Tt} {Q : aj_Q} {J : aj_J} (hJ : aj_Cl 1 c_31 (some .int) false mc ms X T Q J) {o0 : Nat} {x1 : Int32} {x2 : Int32} {x3 : Int32} {s0 : Int32} {s1 : Int32} {s2 : Int32} {Z : aj_Z} {I : aj_I} {G : aj_G} {C : Nat × Nat} (k0 : Z.2.1 o0 = some (.inl 1)) (h0 : T 0 0 30 [.ref o0, .int x1, .int x2] Z I G (fun r Z1 I1 G1 => J 22 [some (.ref o0), some (.int x1), some (.int x2), some (.int x3)] (r.toList ++ [.int 12, .int ((s2 + (s1 * s0)) + 16)]) Z1 I1 G1 C)) : J 9 [some (.ref o0), some (.int x1), some (.int x2), some (.int x3)] [.int s0, .int s1, .int s2] Z I G C := by
  refine s_imul hJ d_31_9 ?_
  refine s_iadd hJ d_31_10 ?_
  refine s_bipush (v := 16) hJ d_31_11 (by decide) ?_
  refine s_iadd hJ d_31_13 ?_
  refine s_bipush (v := 12) hJ d_31_14 (by decide) ?_
  refine s_aload_n hJ d_31_16 rfl ?_
  refine s_iload_n hJ d_31_17 rfl ?_
  refine s_iload_n hJ d_31_18 rfl ?_
  exact s_V2 hJ lm_1_92 d_31_19 (Nat.le_of_ble_eq_true rfl) k0 (h0)
set_option maxRecDepth 4000 in
theorem b_31_22 {mc ms : Nat} {X : Option (Nat × (Nat → Int32))} {T : aj_Tt} {Q : aj_Q} {J : aj_J} (hJ : aj_Cl 1 c_31 (some .int) false mc ms X T Q J) {o0 : Nat} {x1 : Int32} {x2 : Int32} {x3 : Int32} {s0 : Int32} {s1 : Int32} {s2 : Int32} {q0 : Nat} {nk1 : Nat} {Z : aj_Z} {I : aj_I} {G : aj_G} {C : Nat × Nat} (k0 : Z.2.1 o0 = some (.inl 1)) (r0 : Z.2.2 o0 1 = .ref q0) (k1 : Z.2.1 q0 = some (.inr (0, nk1))) (h0 : vp_in x1 nk1) (h1 : x3 = 0 → T 0 0 27 [.ref o0, .int x1, .int x2] Z I G (fun r Z1 I1 G1 => J 55 [some (.ref o0), some (.int x1), some (.int x2), some (.int x3)] (r.toList ++ [.int 4, .int ((((s2 + (s1 * s0)) + 20) + (4 * (I q0 (Int32.toNatClampNeg x1)))) + 16)]) Z1 I1 G1 C)) (h2 : ¬ x3 = 0 → T 0 0 27 [.ref o0, .int x1, .int x2] Z I G (fun r Z1 I1 G1 => J 55 [some (.ref o0), some (.int x1), some (.int x2), some (.int x3)] (r.toList ++ [.int 8, .int ((((s2 + (s1 * s0)) + 20) + (4 * (I q0 (Int32.toNatClampNeg x1)))) + 16)]) Z1 I1 G1 C)) : J 22 [some (.ref o0), some (.int x1), some (.int x2), some (.int x3)] [.int s0, .int s1, .int s2] Z I G C := by
  refine s_imul hJ d_31_22 ?_
  refine s_iadd hJ d_31_23 ?_
  refine s_bipush (v := 20) hJ d_31_24 (by decide) ?_
  refine s_iadd hJ d_31_26 ?_
  refine s_iconst_4 hJ d_31_27 ?_
  refine s_aload_n hJ d_31_28 rfl ?_
  refine s_getr hJ lf_1_7 rfl d_31_29 k0 r0 ?_
  refine s_iload_n hJ d_31_32 rfl ?_
  refine s_iald hJ d_31_33 k1 (h0) ?_
  refine s_imul hJ d_31_34 ?_
  refine s_iadd hJ d_31_35 ?_
  refine s_bipush (v := 16) hJ d_31_36 (by decide) ?_
  refine s_iadd hJ d_31_38 ?_
  refine s_iload_n hJ d_31_39 rfl ?_
  refine s_if_eq (tgt := 48) hJ d_31_40 rfl (fun c0 => ?_) (fun c0 => ?_)
  · skip
    refine s_iconst_4 hJ d_31_48 ?_
    refine s_aload_n hJ d_31_49 rfl ?_
    refine s_iload_n hJ d_31_50 rfl ?_
    refine s_iload_n hJ d_31_51 rfl ?_
    exact s_V2 hJ lm_1_80 d_31_52 (Nat.le_of_ble_eq_true rfl) k0 (h1 c0)
  · skip
    refine s_bipush (v := 8) hJ d_31_43 (by decide) ?_
    refine s_goto (tgt := 49) hJ d_31_45 rfl ?_
    refine s_aload_n hJ d_31_49 rfl ?_
    refine s_iload_n hJ d_31_50 rfl ?_
    refine s_iload_n hJ d_31_51 rfl ?_
    exact s_V2 hJ lm_1_80 d_31_52 (Nat.le_of_ble_eq_true rfl) k0 (h2 c0)
set_option maxRecDepth 4000 in
theorem b_31_55 {mc ms : Nat} {X : Option (Nat × (Nat → Int32))} {T : aj_Tt} {Q : aj_Q} {J : aj_J} (hJ : aj_Cl 1 c_31 (some .int) false mc ms X T Q J) {w0 : Option Value} {w1 : Option Value} {w2 : Option Value} {w3 : Option Value} {s0 : Int32} {s1 : Int32} {s2 : Int32} {Z : aj_Z} {I : aj_I} {G : aj_G} {C : Nat × Nat} (h0 : Q (some (.int (s2 + (s1 * s0)))) Z I G) : J 55 [w0, w1, w2, w3] [.int s0, .int s1, .int s2] Z I G C := by
  refine s_imul hJ d_31_55 ?_
  refine s_iadd hJ d_31_56 ?_
  exact s_iret hJ d_31_57 rfl rfl (h0)
-- ReelOfBoxesModel.bytesOf(III)I : method 32
theorem d_32_0 : decode c_32 0 = .ok (.iconst (0), 1) := by decide +kernel
theorem d_32_1 : decode c_32 1 = .ok (.istore 4, 2) := by decide +kernel
theorem d_32_3 : decode c_32 3 = .ok (.iconst (0), 1) := by decide +kernel
theorem d_32_4 : decode c_32 4 = .ok (.istore 5, 2) := by decide +kernel
theorem d_32_6 : decode c_32 6 = .ok (.iload 5, 2) := by decide +kernel
theorem d_32_8 : decode c_32 8 = .ok (.aload_n 0, 1) := by decide +kernel
theorem d_32_9 : decode c_32 9 = .ok (.iload_n 1, 1) := by decide +kernel
theorem d_32_10 : decode c_32 10 = .ok (.iload_n 2, 1) := by decide +kernel
theorem d_32_11 : decode c_32 11 = .ok (.iload_n 3, 1) := by decide +kernel
theorem d_32_12 : decode c_32 12 = .ok (.invokevirtual 84, 3) := by decide +kernel
theorem d_32_15 : decode c_32 15 = .ok (.if_icmp .ge (30), 3) := by decide +kernel
theorem d_32_18 : decode c_32 18 = .ok (.iload 4, 2) := by decide +kernel
theorem d_32_20 : decode c_32 20 = .ok (.aload_n 0, 1) := by decide +kernel
theorem d_32_21 : decode c_32 21 = .ok (.getfield 16, 3) := by decide +kernel
theorem d_32_24 : decode c_32 24 = .ok (.bipush (16), 2) := by decide +kernel
theorem d_32_26 : decode c_32 26 = .ok (.iload_n 1, 1) := by decide +kernel
theorem d_32_27 : decode c_32 27 = .ok (.imul, 1) := by decide +kernel
theorem d_32_28 : decode c_32 28 = .ok (.iload_n 3, 1) := by decide +kernel
theorem d_32_29 : decode c_32 29 = .ok (.iload_n 2, 1) := by decide +kernel
theorem d_32_30 : decode c_32 30 = .ok (.imul, 1) := by decide +kernel
theorem d_32_31 : decode c_32 31 = .ok (.iadd, 1) := by decide +kernel
theorem d_32_32 : decode c_32 32 = .ok (.iload 5, 2) := by decide +kernel
theorem d_32_34 : decode c_32 34 = .ok (.iadd, 1) := by decide +kernel
theorem d_32_35 : decode c_32 35 = .ok (.iaload, 1) := by decide +kernel
theorem d_32_36 : decode c_32 36 = .ok (.iadd, 1) := by decide +kernel
theorem d_32_37 : decode c_32 37 = .ok (.istore 4, 2) := by decide +kernel
theorem d_32_39 : decode c_32 39 = .ok (.iinc 5 (1), 3) := by decide +kernel
theorem d_32_42 : decode c_32 42 = .ok (.goto (-36), 3) := by decide +kernel
theorem d_32_45 : decode c_32 45 = .ok (.iload 4, 2) := by decide +kernel
theorem d_32_47 : decode c_32 47 = .ok (.ireturn, 1) := by decide +kernel
set_option maxRecDepth 4000 in
theorem b_32_0 {mc ms : Nat} {X : Option (Nat × (Nat → Int32))} {T : aj_Tt} {Q : aj_Q} {J : aj_J} (hJ : aj_Cl 1 c_32 (some .int) false mc ms X T Q J) {o0 : Nat} {x1 : Int32} {x2 : Int32} {x3 : Int32} {Z : aj_Z} {I : aj_I} {G : aj_G} {C : Nat × Nat} (h0 : J 6 [some (.ref o0), some (.int x1), some (.int x2), some (.int x3), some (.int 0), some (.int 0)] [] Z I G C) : J 0 [some (.ref o0), some (.int x1), some (.int x2), some (.int x3), none, none] [] Z I G C := by
  refine s_iconst_0 hJ d_32_0 ?_
  refine s_istore hJ d_32_1 (Nat.le_of_ble_eq_true rfl) ?_
  refine s_iconst_0 hJ d_32_3 ?_
  refine s_istore hJ d_32_4 (Nat.le_of_ble_eq_true rfl) ?_
  exact h0
set_option maxRecDepth 4000 in
theorem b_32_6 {mc ms : Nat} {X : Option (Nat × (Nat → Int32))} {T : aj_Tt} {Q : aj_Q} {J : aj_J} (hJ : aj_Cl 1 c_32 (some .int) false mc ms X T Q J) {o0 : Nat} {x1 : Int32} {x2 : Int32} {x3 : Int32} {x4 : Int32} {x5 : Int32} {Z : aj_Z} {I : aj_I} {G : aj_G} {C : Nat × Nat} (k0 : Z.2.1 o0 = some (.inl 1)) (h0 : T 0 0 28 [.ref o0, .int x1, .int x2, .int x3] Z I G (fun r Z1 I1 G1 => J 15 [some (.ref o0), some (.int x1), some (.int x2), some (.int x3), some (.int x4), some (.int x5)] (r.toList ++ [.int x5]) Z1 I1 G1 C)) : J 6 [some (.ref o0), some (.int x1), some (.int x2), some (.int x3), some (.int x4), some (.int x5)] [] Z I G C := by
  refine s_iload hJ d_32_6 rfl ?_
  refine s_aload_n hJ d_32_8 rfl ?_
  refine s_iload_n hJ d_32_9 rfl ?_
  refine s_iload_n hJ d_32_10 rfl ?_
  refine s_iload_n hJ d_32_11 rfl ?_
  exact s_V3 hJ lm_1_84 d_32_12 (Nat.le_of_ble_eq_true rfl) k0 (h0)
set_option maxRecDepth 4000 in
theorem b_32_15 {mc ms : Nat} {X : Option (Nat × (Nat → Int32))} {T : aj_Tt} {Q : aj_Q} {J : aj_J} (hJ : aj_Cl 1 c_32 (some .int) false mc ms X T Q J) {o0 : Nat} {x1 : Int32} {x2 : Int32} {x3 : Int32} {x4 : Int32} {x5 : Int32} {s0 : Int32} {s1 : Int32} {q0 : Nat} {nk1 : Nat} {Z : aj_Z} {I : aj_I} {G : aj_G} {C : Nat × Nat} (h0 : s0 ≤ s1 → Q (some (.int x4)) Z I G) (k0 : Z.2.1 o0 = some (.inl 1)) (r0 : Z.2.2 o0 3 = .ref q0) (k1 : Z.2.1 q0 = some (.inr (0, nk1))) (h1 : ¬ s0 ≤ s1 → vp_in (((16 * x1) + (x3 * x2)) + x5) nk1) (h2 : ¬ s0 ≤ s1 → J 6 [some (.ref o0), some (.int x1), some (.int x2), some (.int x3), some (.int (x4 + (I q0 (Int32.toNatClampNeg (((16 * x1) + (x3 * x2)) + x5))))), some (.int (x5 + 1))] [] Z I G C) : J 15 [some (.ref o0), some (.int x1), some (.int x2), some (.int x3), some (.int x4), some (.int x5)] [.int s0, .int s1] Z I G C := by
  refine s_icmp_ge (tgt := 45) hJ d_32_15 rfl (fun c0 => ?_) (fun c0 => ?_)
  · skip
    refine s_iload hJ d_32_45 rfl ?_
    exact s_iret hJ d_32_47 rfl rfl (h0 c0)
  · skip
    refine s_iload hJ d_32_18 rfl ?_
    refine s_aload_n hJ d_32_20 rfl ?_
    refine s_getr hJ lf_1_16 rfl d_32_21 k0 r0 ?_
    refine s_bipush (v := 16) hJ d_32_24 (by decide) ?_
    refine s_iload_n hJ d_32_26 rfl ?_
    refine s_imul hJ d_32_27 ?_
    refine s_iload_n hJ d_32_28 rfl ?_
    refine s_iload_n hJ d_32_29 rfl ?_
    refine s_imul hJ d_32_30 ?_
    refine s_iadd hJ d_32_31 ?_
    refine s_iload hJ d_32_32 rfl ?_
    refine s_iadd hJ d_32_34 ?_
    refine s_iald hJ d_32_35 k1 (h1 c0) ?_
    refine s_iadd hJ d_32_36 ?_
    refine s_istore hJ d_32_37 (Nat.le_of_ble_eq_true rfl) ?_
    refine s_iinc (v := 1) hJ d_32_39 rfl (by decide) ?_
    refine s_goto (tgt := 6) hJ d_32_42 rfl ?_
    exact h2 c0
-- ReelOfBoxesModel.bytesBefore(III)I : method 33
theorem d_33_0 : decode c_33 0 = .ok (.iconst (0), 1) := by decide +kernel
theorem d_33_1 : decode c_33 1 = .ok (.istore 4, 2) := by decide +kernel
theorem d_33_3 : decode c_33 3 = .ok (.iconst (0), 1) := by decide +kernel
theorem d_33_4 : decode c_33 4 = .ok (.istore 5, 2) := by decide +kernel
theorem d_33_6 : decode c_33 6 = .ok (.iload 5, 2) := by decide +kernel
theorem d_33_8 : decode c_33 8 = .ok (.iload_n 3, 1) := by decide +kernel
theorem d_33_9 : decode c_33 9 = .ok (.if_icmp .gt (58), 3) := by decide +kernel
theorem d_33_12 : decode c_33 12 = .ok (.iconst (0), 1) := by decide +kernel
theorem d_33_13 : decode c_33 13 = .ok (.istore 6, 2) := by decide +kernel
theorem d_33_15 : decode c_33 15 = .ok (.iload 6, 2) := by decide +kernel
theorem d_33_17 : decode c_33 17 = .ok (.aload_n 0, 1) := by decide +kernel
theorem d_33_18 : decode c_33 18 = .ok (.getfield 64, 3) := by decide +kernel
theorem d_33_21 : decode c_33 21 = .ok (.if_icmp .ge (40), 3) := by decide +kernel
theorem d_33_24 : decode c_33 24 = .ok (.iload 5, 2) := by decide +kernel
theorem d_33_26 : decode c_33 26 = .ok (.iload_n 3, 1) := by decide +kernel
theorem d_33_27 : decode c_33 27 = .ok (.if_icmp .lt (9), 3) := by decide +kernel
theorem d_33_30 : decode c_33 30 = .ok (.iload 6, 2) := by decide +kernel
theorem d_33_32 : decode c_33 32 = .ok (.iload_n 1, 1) := by decide +kernel
theorem d_33_33 : decode c_33 33 = .ok (.if_icmp .ge (18), 3) := by decide +kernel
theorem d_33_36 : decode c_33 36 = .ok (.iload 4, 2) := by decide +kernel
theorem d_33_38 : decode c_33 38 = .ok (.aload_n 0, 1) := by decide +kernel
theorem d_33_39 : decode c_33 39 = .ok (.iload 6, 2) := by decide +kernel
theorem d_33_41 : decode c_33 41 = .ok (.iload_n 2, 1) := by decide +kernel
theorem d_33_42 : decode c_33 42 = .ok (.iload 5, 2) := by decide +kernel
theorem d_33_44 : decode c_33 44 = .ok (.invokevirtual 95, 3) := by decide +kernel
theorem d_33_47 : decode c_33 47 = .ok (.iadd, 1) := by decide +kernel
theorem d_33_48 : decode c_33 48 = .ok (.goto (5), 3) := by decide +kernel
theorem d_33_51 : decode c_33 51 = .ok (.iload 4, 2) := by decide +kernel
theorem d_33_53 : decode c_33 53 = .ok (.istore 4, 2) := by decide +kernel
theorem d_33_55 : decode c_33 55 = .ok (.iinc 6 (1), 3) := by decide +kernel
theorem d_33_58 : decode c_33 58 = .ok (.goto (-43), 3) := by decide +kernel
theorem d_33_61 : decode c_33 61 = .ok (.iinc 5 (1), 3) := by decide +kernel
theorem d_33_64 : decode c_33 64 = .ok (.goto (-58), 3) := by decide +kernel
theorem d_33_67 : decode c_33 67 = .ok (.iload 4, 2) := by decide +kernel
theorem d_33_69 : decode c_33 69 = .ok (.ireturn, 1) := by decide +kernel
set_option maxRecDepth 4000 in
theorem b_33_0 {mc ms : Nat} {X : Option (Nat × (Nat → Int32))} {T : aj_Tt} {Q : aj_Q} {J : aj_J} (hJ : aj_Cl 1 c_33 (some .int) false mc ms X T Q J) {o0 : Nat} {x1 : Int32} {x2 : Int32} {x3 : Int32} {Z : aj_Z} {I : aj_I} {G : aj_G} {C : Nat × Nat} (h0 : J 6 [some (.ref o0), some (.int x1), some (.int x2), some (.int x3), some (.int 0), some (.int 0), none] [] Z I G C) : J 0 [some (.ref o0), some (.int x1), some (.int x2), some (.int x3), none, none, none] [] Z I G C := by
  refine s_iconst_0 hJ d_33_0 ?_
  refine s_istore hJ d_33_1 (Nat.le_of_ble_eq_true rfl) ?_
  refine s_iconst_0 hJ d_33_3 ?_
  refine s_istore hJ d_33_4 (Nat.le_of_ble_eq_true rfl) ?_
  exact h0
set_option maxRecDepth 4000 in
theorem b_33_6 {mc ms : Nat} {X : Option (Nat × (Nat → Int32))} {T : aj_Tt} {Q : aj_Q} {J : aj_J} (hJ : aj_Cl 1 c_33 (some .int) false mc ms X T Q J) {o0 : Nat} {x1 : Int32} {x2 : Int32} {x3 : Int32} {x4 : Int32} {x5 : Int32} {w6 : Option Value} {Z : aj_Z} {I : aj_I} {G : aj_G} {C : Nat × Nat} (h0 : x3 < x5 → Q (some (.int x4)) Z I G) (h1 : ¬ x3 < x5 → J 15 [some (.ref o0), some (.int x1), some (.int x2), some (.int x3), some (.int x4), some (.int x5), some (.int 0)] [] Z I G C) : J 6 [some (.ref o0), some (.int x1), some (.int x2), some (.int x3), some (.int x4), some (.int x5), w6] [] Z I G C := by
  refine s_iload hJ d_33_6 rfl ?_
  refine s_iload_n hJ d_33_8 rfl ?_
  refine s_icmp_gt (tgt := 67) hJ d_33_9 rfl (fun c0 => ?_) (fun c0 => ?_)
  · skip
    refine s_iload hJ d_33_67 rfl ?_
    exact s_iret hJ d_33_69 rfl rfl (h0 c0)
  · skip
    refine s_iconst_0 hJ d_33_12 ?_
    refine s_istore hJ d_33_13 (Nat.le_of_ble_eq_true rfl) ?_
    exact h1 c0
set_option maxRecDepth 4000 in
theorem b_33_15 {mc ms : Nat} {X : Option (Nat × (Nat → Int32))} {T : aj_Tt} {Q : aj_Q} {J : aj_J} (hJ : aj_Cl 1 c_33 (some .int) false mc ms X T Q J) {o0 : Nat} {x1 : Int32} {x2 : Int32} {x3 : Int32} {x4 : Int32} {x5 : Int32} {x6 : Int32} {Z : aj_Z} {I : aj_I} {G : aj_G} {C : Nat × Nat} (k0 : Z.2.1 o0 = some (.inl 1)) (h0 : (I o0 0) ≤ x6 → J 6 [some (.ref o0), some (.int x1), some (.int x2), some (.int x3), some (.int x4), some (.int (x5 + 1)), some (.int x6)] [] Z I G C) (h1 : ¬ (I o0 0) ≤ x6 → x5 < x3 → T 0 0 32 [.ref o0, .int x6, .int x2, .int x5] Z I G (fun r Z1 I1 G1 => J 47 [some (.ref o0), some (.int x1), some (.int x2), some (.int x3), some (.int x4), some (.int x5), some (.int x6)] (r.toList ++ [.int x4]) Z1 I1 G1 C)) (h2 : ¬ (I o0 0) ≤ x6 → ¬ x5 < x3 → x1 ≤ x6 → J 15 [some (.ref o0), some (.int x1), some (.int x2), some (.int x3), some (.int x4), some (.int x5), some (.int (x6 + 1))] [] Z I G C) (h3 : ¬ (I o0 0) ≤ x6 → ¬ x5 < x3 → ¬ x1 ≤ x6 → T 0 0 32 [.ref o0, .int x6, .int x2, .int x5] Z I G (fun r Z1 I1 G1 => J 47 [some (.ref o0), some (.int x1), some (.int x2), some (.int x3), some (.int x4), some (.int x5), some (.int x6)] (r.toList ++ [.int x4]) Z1 I1 G1 C)) : J 15 [some (.ref o0), some (.int x1), some (.int x2), some (.int x3), some (.int x4), some (.int x5), some (.int x6)] [] Z I G C := by
  refine s_iload hJ d_33_15 rfl ?_
  refine s_aload_n hJ d_33_17 rfl ?_
  refine s_geti hJ lf_1_64 rfl d_33_18 k0 ?_
  refine s_icmp_ge (tgt := 61) hJ d_33_21 rfl (fun c0 => ?_) (fun c0 => ?_)
  · skip
    refine s_iinc (v := 1) hJ d_33_61 rfl (by decide) ?_
    refine s_goto (tgt := 6) hJ d_33_64 rfl ?_
    exact h0 c0
  · skip
    refine s_iload hJ d_33_24 rfl ?_
    refine s_iload_n hJ d_33_26 rfl ?_
    refine s_icmp_lt (tgt := 36) hJ d_33_27 rfl (fun c1 => ?_) (fun c1 => ?_)
    · skip
      refine s_iload hJ d_33_36 rfl ?_
      refine s_aload_n hJ d_33_38 rfl ?_
      refine s_iload hJ d_33_39 rfl ?_
      refine s_iload_n hJ d_33_41 rfl ?_
      refine s_iload hJ d_33_42 rfl ?_
      exact s_V3 hJ lm_1_95 d_33_44 (Nat.le_of_ble_eq_true rfl) k0 (h1 c0 c1)
    · skip
      refine s_iload hJ d_33_30 rfl ?_
      refine s_iload_n hJ d_33_32 rfl ?_
      refine s_icmp_ge (tgt := 51) hJ d_33_33 rfl (fun c2 => ?_) (fun c2 => ?_)
      · skip
        refine s_iload hJ d_33_51 rfl ?_
        refine s_istore hJ d_33_53 (Nat.le_of_ble_eq_true rfl) ?_
        refine s_iinc (v := 1) hJ d_33_55 rfl (by decide) ?_
        refine s_goto (tgt := 15) hJ d_33_58 rfl ?_
        exact h2 c0 c1 c2
      · skip
        refine s_iload hJ d_33_36 rfl ?_
        refine s_aload_n hJ d_33_38 rfl ?_
        refine s_iload hJ d_33_39 rfl ?_
        refine s_iload_n hJ d_33_41 rfl ?_
        refine s_iload hJ d_33_42 rfl ?_
        exact s_V3 hJ lm_1_95 d_33_44 (Nat.le_of_ble_eq_true rfl) k0 (h3 c0 c1 c2)
set_option maxRecDepth 4000 in
theorem b_33_47 {mc ms : Nat} {X : Option (Nat × (Nat → Int32))} {T : aj_Tt} {Q : aj_Q} {J : aj_J} (hJ : aj_Cl 1 c_33 (some .int) false mc ms X T Q J) {o0 : Nat} {x1 : Int32} {x2 : Int32} {x3 : Int32} {w4 : Option Value} {x5 : Int32} {x6 : Int32} {s0 : Int32} {s1 : Int32} {Z : aj_Z} {I : aj_I} {G : aj_G} {C : Nat × Nat} (h0 : J 15 [some (.ref o0), some (.int x1), some (.int x2), some (.int x3), some (.int (s1 + s0)), some (.int x5), some (.int (x6 + 1))] [] Z I G C) : J 47 [some (.ref o0), some (.int x1), some (.int x2), some (.int x3), w4, some (.int x5), some (.int x6)] [.int s0, .int s1] Z I G C := by
  refine s_iadd hJ d_33_47 ?_
  refine s_goto (tgt := 53) hJ d_33_48 rfl ?_
  refine s_istore hJ d_33_53 (Nat.le_of_ble_eq_true rfl) ?_
  refine s_iinc (v := 1) hJ d_33_55 rfl (by decide) ?_
  refine s_goto (tgt := 15) hJ d_33_58 rfl ?_
  exact h0
-- ReelOfBoxesModel.writeTimes(I)V : method 34
theorem d_34_0 : decode c_34 0 = .ok (.aload_n 0, 1) := by decide +kernel
theorem d_34_1 : decode c_34 1 = .ok (.iload_n 1, 1) := by decide +kernel
theorem d_34_2 : decode c_34 2 = .ok (.invokevirtual 88, 3) := by decide +kernel
theorem d_34_5 : decode c_34 5 = .ok (.istore_n 2, 1) := by decide +kernel
theorem d_34_6 : decode c_34 6 = .ok (.aload_n 0, 1) := by decide +kernel
theorem d_34_7 : decode c_34 7 = .ok (.bipush (16), 2) := by decide +kernel
theorem d_34_9 : decode c_34 9 = .ok (.bipush (8), 2) := by decide +kernel
theorem d_34_11 : decode c_34 11 = .ok (.iload_n 2, 1) := by decide +kernel
theorem d_34_12 : decode c_34 12 = .ok (.imul, 1) := by decide +kernel
theorem d_34_13 : decode c_34 13 = .ok (.iadd, 1) := by decide +kernel
theorem d_34_14 : decode c_34 14 = .ok (.ldc 98, 2) := by decide +kernel
theorem d_34_16 : decode c_34 16 = .ok (.invokevirtual 99, 3) := by decide +kernel
theorem d_34_19 : decode c_34 19 = .ok (.aload_n 0, 1) := by decide +kernel
theorem d_34_20 : decode c_34 20 = .ok (.lconst 0, 1) := by decide +kernel
theorem d_34_21 : decode c_34 21 = .ok (.iconst (4), 1) := by decide +kernel
theorem d_34_22 : decode c_34 22 = .ok (.invokevirtual 76, 3) := by decide +kernel
theorem d_34_25 : decode c_34 25 = .ok (.aload_n 0, 1) := by decide +kernel
theorem d_34_26 : decode c_34 26 = .ok (.iload_n 2, 1) := by decide +kernel
theorem d_34_27 : decode c_34 27 = .ok (.i2l, 1) := by decide +kernel
theorem d_34_28 : decode c_34 28 = .ok (.iconst (4), 1) := by decide +kernel
theorem d_34_29 : decode c_34 29 = .ok (.invokevirtual 76, 3) := by decide +kernel
theorem d_34_32 : decode c_34 32 = .ok (.iconst (0), 1) := by decide +kernel
theorem d_34_33 : decode c_34 33 = .ok (.istore_n 3, 1) := by decide +kernel
theorem d_34_34 : decode c_34 34 = .ok (.iconst (0), 1) := by decide +kernel
theorem d_34_35 : decode c_34 35 = .ok (.istore 4, 2) := by decide +kernel
theorem d_34_37 : decode c_34 37 = .ok (.iload 4, 2) := by decide +kernel
theorem d_34_39 : decode c_34 39 = .ok (.aload_n 0, 1) := by decide +kernel
theorem d_34_40 : decode c_34 40 = .ok (.getfield 7, 3) := by decide +kernel
theorem d_34_43 : decode c_34 43 = .ok (.iload_n 1, 1) := by decide +kernel
theorem d_34_44 : decode c_34 44 = .ok (.iaload, 1) := by decide +kernel
theorem d_34_45 : decode c_34 45 = .ok (.if_icmp .ge (76), 3) := by decide +kernel
theorem d_34_48 : decode c_34 48 = .ok (.bipush (16), 2) := by decide +kernel
theorem d_34_50 : decode c_34 50 = .ok (.iload_n 1, 1) := by decide +kernel
theorem d_34_51 : decode c_34 51 = .ok (.imul, 1) := by decide +kernel
theorem d_34_52 : decode c_34 52 = .ok (.iload 4, 2) := by decide +kernel
theorem d_34_54 : decode c_34 54 = .ok (.iadd, 1) := by decide +kernel
theorem d_34_55 : decode c_34 55 = .ok (.istore 5, 2) := by decide +kernel
theorem d_34_57 : decode c_34 57 = .ok (.iload_n 3, 1) := by decide +kernel
theorem d_34_58 : decode c_34 58 = .ok (.iconst (1), 1) := by decide +kernel
theorem d_34_59 : decode c_34 59 = .ok (.iadd, 1) := by decide +kernel
theorem d_34_60 : decode c_34 60 = .ok (.istore_n 3, 1) := by decide +kernel
theorem d_34_61 : decode c_34 61 = .ok (.iload 4, 2) := by decide +kernel
theorem d_34_63 : decode c_34 63 = .ok (.aload_n 0, 1) := by decide +kernel
theorem d_34_64 : decode c_34 64 = .ok (.getfield 7, 3) := by decide +kernel
theorem d_34_67 : decode c_34 67 = .ok (.iload_n 1, 1) := by decide +kernel
theorem d_34_68 : decode c_34 68 = .ok (.iaload, 1) := by decide +kernel
theorem d_34_69 : decode c_34 69 = .ok (.iconst (1), 1) := by decide +kernel
theorem d_34_70 : decode c_34 70 = .ok (.isub, 1) := by decide +kernel
theorem d_34_71 : decode c_34 71 = .ok (.if_icmp .eq (22), 3) := by decide +kernel
theorem d_34_74 : decode c_34 74 = .ok (.aload_n 0, 1) := by decide +kernel
theorem d_34_75 : decode c_34 75 = .ok (.getfield 13, 3) := by decide +kernel
theorem d_34_78 : decode c_34 78 = .ok (.iload 5, 2) := by decide +kernel
theorem d_34_80 : decode c_34 80 = .ok (.iconst (1), 1) := by decide +kernel
theorem d_34_81 : decode c_34 81 = .ok (.iadd, 1) := by decide +kernel
theorem d_34_82 : decode c_34 82 = .ok (.iaload, 1) := by decide +kernel
theorem d_34_83 : decode c_34 83 = .ok (.aload_n 0, 1) := by decide +kernel
theorem d_34_84 : decode c_34 84 = .ok (.getfield 13, 3) := by decide +kernel
theorem d_34_87 : decode c_34 87 = .ok (.iload 5, 2) := by decide +kernel
theorem d_34_89 : decode c_34 89 = .ok (.iaload, 1) := by decide +kernel
theorem d_34_90 : decode c_34 90 = .ok (.if_icmp .eq (25), 3) := by decide +kernel
theorem d_34_93 : decode c_34 93 = .ok (.aload_n 0, 1) := by decide +kernel
theorem d_34_94 : decode c_34 94 = .ok (.iload_n 3, 1) := by decide +kernel
theorem d_34_95 : decode c_34 95 = .ok (.i2l, 1) := by decide +kernel
theorem d_34_96 : decode c_34 96 = .ok (.iconst (4), 1) := by decide +kernel
theorem d_34_97 : decode c_34 97 = .ok (.invokevirtual 76, 3) := by decide +kernel
theorem d_34_100 : decode c_34 100 = .ok (.aload_n 0, 1) := by decide +kernel
theorem d_34_101 : decode c_34 101 = .ok (.aload_n 0, 1) := by decide +kernel
theorem d_34_102 : decode c_34 102 = .ok (.getfield 13, 3) := by decide +kernel
theorem d_34_105 : decode c_34 105 = .ok (.iload 5, 2) := by decide +kernel
theorem d_34_107 : decode c_34 107 = .ok (.iaload, 1) := by decide +kernel
theorem d_34_108 : decode c_34 108 = .ok (.i2l, 1) := by decide +kernel
theorem d_34_109 : decode c_34 109 = .ok (.iconst (4), 1) := by decide +kernel
theorem d_34_110 : decode c_34 110 = .ok (.invokevirtual 76, 3) := by decide +kernel
theorem d_34_113 : decode c_34 113 = .ok (.iconst (0), 1) := by decide +kernel
theorem d_34_114 : decode c_34 114 = .ok (.istore_n 3, 1) := by decide +kernel
theorem d_34_115 : decode c_34 115 = .ok (.iinc 4 (1), 3) := by decide +kernel
theorem d_34_118 : decode c_34 118 = .ok (.goto (-81), 3) := by decide +kernel
theorem d_34_121 : decode c_34 121 = .ok (.return_, 1) := by decide +kernel
set_option maxRecDepth 4000 in
theorem b_34_0 {mc ms : Nat} {X : Option (Nat × (Nat → Int32))} {T : aj_Tt} {Q : aj_Q} {J : aj_J} (hJ : aj_Cl 1 c_34 (none) false mc ms X T Q J) {o0 : Nat} {x1 : Int32} {Z : aj_Z} {I : aj_I} {G : aj_G} {C : Nat × Nat} (k0 : Z.2.1 o0 = some (.inl 1)) (h0 : T 0 0 29 [.ref o0, .int x1] Z I G (fun r Z1 I1 G1 => J 5 [some (.ref o0), some (.int x1), none, none, none, none] (r.toList ++ []) Z1 I1 G1 C)) : J 0 [some (.ref o0), some (.int x1), none, none, none, none] [] Z I G C := by
  refine s_aload_n hJ d_34_0 rfl ?_
  refine s_iload_n hJ d_34_1 rfl ?_
  exact s_V1 hJ lm_1_88 d_34_2 (Nat.le_of_ble_eq_true rfl) k0 (h0)
set_option maxRecDepth 4000 in
theorem b_34_5 {mc ms : Nat} {X : Option (Nat × (Nat → Int32))} {T : aj_Tt} {Q : aj_Q} {J : aj_J} (hJ : aj_Cl 1 c_34 (none) false mc ms X T Q J) {o0 : Nat} {x1 : Int32} {w2 : Option Value} {w3 : Option Value} {w4 : Option Value} {w5 : Option Value} {s0 : Int32} {Z : aj_Z} {I : aj_I} {G : aj_G} {C : Nat × Nat} (k0 : Z.2.1 o0 = some (.inl 1)) (h0 : T 0 0 26 [.ref o0, .int (16 + (8 * s0)), .int 1937011827] Z I G (fun r Z1 I1 G1 => J 19 [some (.ref o0), some (.int x1), some (.int s0), w3, w4, w5] (r.toList ++ []) Z1 I1 G1 C)) : J 5 [some (.ref o0), some (.int x1), w2, w3, w4, w5] [.int s0] Z I G C := by
  refine s_istore_n hJ d_34_5 (Nat.le_of_ble_eq_true rfl) ?_
  refine s_aload_n hJ d_34_6 rfl ?_
  refine s_bipush (v := 16) hJ d_34_7 (by decide) ?_
  refine s_bipush (v := 8) hJ d_34_9 (by decide) ?_
  refine s_iload_n hJ d_34_11 rfl ?_
  refine s_imul hJ d_34_12 ?_
  refine s_iadd hJ d_34_13 ?_
  refine s_ldc hJ lc_1_98 d_34_14 ?_
  exact s_V2 hJ lm_1_99 d_34_16 (Nat.le_of_ble_eq_true rfl) k0 (h0)
set_option maxRecDepth 4000 in
theorem b_34_19 {mc ms : Nat} {X : Option (Nat × (Nat → Int32))} {T : aj_Tt} {Q : aj_Q} {J : aj_J} (hJ : aj_Cl 1 c_34 (none) false mc ms X T Q J) {o0 : Nat} {x1 : Int32} {x2 : Int32} {w3 : Option Value} {w4 : Option Value} {w5 : Option Value} {Z : aj_Z} {I : aj_I} {G : aj_G} {C : Nat × Nat} (k0 : Z.2.1 o0 = some (.inl 1)) (h0 : T 0 0 25 [.ref o0, .long 0, .int 4] Z I G (fun r Z1 I1 G1 => J 25 [some (.ref o0), some (.int x1), some (.int x2), w3, w4, w5] (r.toList ++ []) Z1 I1 G1 C)) : J 19 [some (.ref o0), some (.int x1), some (.int x2), w3, w4, w5] [] Z I G C := by
  refine s_aload_n hJ d_34_19 rfl ?_
  refine s_lconst_0 hJ d_34_20 ?_
  refine s_iconst_4 hJ d_34_21 ?_
  exact s_V2 hJ lm_1_76 d_34_22 (Nat.le_of_ble_eq_true rfl) k0 (h0)
set_option maxRecDepth 4000 in
theorem b_34_25 {mc ms : Nat} {X : Option (Nat × (Nat → Int32))} {T : aj_Tt} {Q : aj_Q} {J : aj_J} (hJ : aj_Cl 1 c_34 (none) false mc ms X T Q J) {o0 : Nat} {x1 : Int32} {x2 : Int32} {w3 : Option Value} {w4 : Option Value} {w5 : Option Value} {Z : aj_Z} {I : aj_I} {G : aj_G} {C : Nat × Nat} (k0 : Z.2.1 o0 = some (.inl 1)) (h0 : T 0 0 25 [.ref o0, .long (Int32.toInt64 x2), .int 4] Z I G (fun r Z1 I1 G1 => J 32 [some (.ref o0), some (.int x1), some (.int x2), w3, w4, w5] (r.toList ++ []) Z1 I1 G1 C)) : J 25 [some (.ref o0), some (.int x1), some (.int x2), w3, w4, w5] [] Z I G C := by
  refine s_aload_n hJ d_34_25 rfl ?_
  refine s_iload_n hJ d_34_26 rfl ?_
  refine s_i2l hJ d_34_27 ?_
  refine s_iconst_4 hJ d_34_28 ?_
  exact s_V2 hJ lm_1_76 d_34_29 (Nat.le_of_ble_eq_true rfl) k0 (h0)
set_option maxRecDepth 4000 in
theorem b_34_32 {mc ms : Nat} {X : Option (Nat × (Nat → Int32))} {T : aj_Tt} {Q : aj_Q} {J : aj_J} (hJ : aj_Cl 1 c_34 (none) false mc ms X T Q J) {o0 : Nat} {x1 : Int32} {w2 : Option Value} {w3 : Option Value} {w4 : Option Value} {w5 : Option Value} {Z : aj_Z} {I : aj_I} {G : aj_G} {C : Nat × Nat} (h0 : J 37 [some (.ref o0), some (.int x1), (aj_clr w2), some (.int 0), some (.int 0), w5] [] Z I G C) : J 32 [some (.ref o0), some (.int x1), w2, w3, w4, w5] [] Z I G C := by
  refine s_iconst_0 hJ d_34_32 ?_
  refine s_istore_n hJ d_34_33 (Nat.le_of_ble_eq_true rfl) ?_
  refine s_iconst_0 hJ d_34_34 ?_
  refine s_istore hJ d_34_35 (Nat.le_of_ble_eq_true rfl) ?_
  exact h0
set_option maxRecDepth 4000 in
theorem b_34_37 {mc ms : Nat} {X : Option (Nat × (Nat → Int32))} {T : aj_Tt} {Q : aj_Q} {J : aj_J} (hJ : aj_Cl 1 c_34 (none) false mc ms X T Q J) {o0 : Nat} {x1 : Int32} {w2 : Option Value} {x3 : Int32} {x4 : Int32} {w5 : Option Value} {q0 : Nat} {nk1 : Nat} {q1 : Nat} {nk3 : Nat} {Z : aj_Z} {I : aj_I} {G : aj_G} {C : Nat × Nat} (k0 : Z.2.1 o0 = some (.inl 1)) (r0 : Z.2.2 o0 1 = .ref q0) (k1 : Z.2.1 q0 = some (.inr (0, nk1))) (h0 : vp_in x1 nk1) (h1 : (I q0 (Int32.toNatClampNeg x1)) ≤ x4 → Q none Z I G) (h2 : ¬ (I q0 (Int32.toNatClampNeg x1)) ≤ x4 → vp_in x1 nk1) (h3 : ¬ (I q0 (Int32.toNatClampNeg x1)) ≤ x4 → x4 = ((I q0 (Int32.toNatClampNeg x1)) - 1) → T 0 0 25 [.ref o0, .long (Int32.toInt64 (x3 + 1)), .int 4] Z I G (fun r Z1 I1 G1 => J 100 [some (.ref o0), some (.int x1), (aj_clr w2), some (.int (x3 + 1)), some (.int x4), some (.int ((16 * x1) + x4))] (r.toList ++ []) Z1 I1 G1 C)) (r1 : Z.2.2 o0 2 = .ref q1) (k3 : Z.2.1 q1 = some (.inr (0, nk3))) (h4 : ¬ (I q0 (Int32.toNatClampNeg x1)) ≤ x4 → ¬ x4 = ((I q0 (Int32.toNatClampNeg x1)) - 1) → vp_in (((16 * x1) + x4) + 1) nk3) (h5 : ¬ (I q0 (Int32.toNatClampNeg x1)) ≤ x4 → ¬ x4 = ((I q0 (Int32.toNatClampNeg x1)) - 1) → vp_in ((16 * x1) + x4) nk3) (h6 : ¬ (I q0 (Int32.toNatClampNeg x1)) ≤ x4 → ¬ x4 = ((I q0 (Int32.toNatClampNeg x1)) - 1) → (I q1 (Int32.toNatClampNeg (((16 * x1) + x4) + 1))) = (I q1 (Int32.toNatClampNeg ((16 * x1) + x4))) → J 37 [some (.ref o0), some (.int x1), (aj_clr w2), some (.int (x3 + 1)), some (.int (x4 + 1)), some (.int ((16 * x1) + x4))] [] Z I G C) (h7 : ¬ (I q0 (Int32.toNatClampNeg x1)) ≤ x4 → ¬ x4 = ((I q0 (Int32.toNatClampNeg x1)) - 1) → ¬ (I q1 (Int32.toNatClampNeg (((16 * x1) + x4) + 1))) = (I q1 (Int32.toNatClampNeg ((16 * x1) + x4))) → T 0 0 25 [.ref o0, .long (Int32.toInt64 (x3 + 1)), .int 4] Z I G (fun r Z1 I1 G1 => J 100 [some (.ref o0), some (.int x1), (aj_clr w2), some (.int (x3 + 1)), some (.int x4), some (.int ((16 * x1) + x4))] (r.toList ++ []) Z1 I1 G1 C)) : J 37 [some (.ref o0), some (.int x1), w2, some (.int x3), some (.int x4), w5] [] Z I G C := by
  refine s_iload hJ d_34_37 rfl ?_
  refine s_aload_n hJ d_34_39 rfl ?_
  refine s_getr hJ lf_1_7 rfl d_34_40 k0 r0 ?_
  refine s_iload_n hJ d_34_43 rfl ?_
  refine s_iald hJ d_34_44 k1 (h0) ?_
  refine s_icmp_ge (tgt := 121) hJ d_34_45 rfl (fun c0 => ?_) (fun c0 => ?_)
  · skip
    exact s_vret hJ d_34_121 rfl (h1 c0)
  · skip
    refine s_bipush (v := 16) hJ d_34_48 (by decide) ?_
    refine s_iload_n hJ d_34_50 rfl ?_
    refine s_imul hJ d_34_51 ?_
    refine s_iload hJ d_34_52 rfl ?_
    refine s_iadd hJ d_34_54 ?_
    refine s_istore hJ d_34_55 (Nat.le_of_ble_eq_true rfl) ?_
    refine s_iload_n hJ d_34_57 rfl ?_
    refine s_iconst_1 hJ d_34_58 ?_
    refine s_iadd hJ d_34_59 ?_
    refine s_istore_n hJ d_34_60 (Nat.le_of_ble_eq_true rfl) ?_
    refine s_iload hJ d_34_61 rfl ?_
    refine s_aload_n hJ d_34_63 rfl ?_
    refine s_getr hJ lf_1_7 rfl d_34_64 k0 r0 ?_
    refine s_iload_n hJ d_34_67 rfl ?_
    refine s_iald hJ d_34_68 k1 (h2 c0) ?_
    refine s_iconst_1 hJ d_34_69 ?_
    refine s_isub hJ d_34_70 ?_
    refine s_icmp_eq (tgt := 93) hJ d_34_71 rfl (fun c1 => ?_) (fun c1 => ?_)
    · skip
      refine s_aload_n hJ d_34_93 rfl ?_
      refine s_iload_n hJ d_34_94 rfl ?_
      refine s_i2l hJ d_34_95 ?_
      refine s_iconst_4 hJ d_34_96 ?_
      exact s_V2 hJ lm_1_76 d_34_97 (Nat.le_of_ble_eq_true rfl) k0 (h3 c0 c1)
    · skip
      refine s_aload_n hJ d_34_74 rfl ?_
      refine s_getr hJ lf_1_13 rfl d_34_75 k0 r1 ?_
      refine s_iload hJ d_34_78 rfl ?_
      refine s_iconst_1 hJ d_34_80 ?_
      refine s_iadd hJ d_34_81 ?_
      refine s_iald hJ d_34_82 k3 (h4 c0 c1) ?_
      refine s_aload_n hJ d_34_83 rfl ?_
      refine s_getr hJ lf_1_13 rfl d_34_84 k0 r1 ?_
      refine s_iload hJ d_34_87 rfl ?_
      refine s_iald hJ d_34_89 k3 (h5 c0 c1) ?_
      refine s_icmp_eq (tgt := 115) hJ d_34_90 rfl (fun c2 => ?_) (fun c2 => ?_)
      · skip
        refine s_iinc (v := 1) hJ d_34_115 rfl (by decide) ?_
        refine s_goto (tgt := 37) hJ d_34_118 rfl ?_
        exact h6 c0 c1 c2
      · skip
        refine s_aload_n hJ d_34_93 rfl ?_
        refine s_iload_n hJ d_34_94 rfl ?_
        refine s_i2l hJ d_34_95 ?_
        refine s_iconst_4 hJ d_34_96 ?_
        exact s_V2 hJ lm_1_76 d_34_97 (Nat.le_of_ble_eq_true rfl) k0 (h7 c0 c1 c2)
set_option maxRecDepth 4000 in
theorem b_34_100 {mc ms : Nat} {X : Option (Nat × (Nat → Int32))} {T : aj_Tt} {Q : aj_Q} {J : aj_J} (hJ : aj_Cl 1 c_34 (none) false mc ms X T Q J) {o0 : Nat} {x1 : Int32} {w2 : Option Value} {w3 : Option Value} {x4 : Int32} {x5 : Int32} {q0 : Nat} {nk1 : Nat} {Z : aj_Z} {I : aj_I} {G : aj_G} {C : Nat × Nat} (k0 : Z.2.1 o0 = some (.inl 1)) (r0 : Z.2.2 o0 2 = .ref q0) (k1 : Z.2.1 q0 = some (.inr (0, nk1))) (h0 : vp_in x5 nk1) (h1 : T 0 0 25 [.ref o0, .long (Int32.toInt64 (I q0 (Int32.toNatClampNeg x5))), .int 4] Z I G (fun r Z1 I1 G1 => J 113 [some (.ref o0), some (.int x1), w2, w3, some (.int x4), some (.int x5)] (r.toList ++ []) Z1 I1 G1 C)) : J 100 [some (.ref o0), some (.int x1), w2, w3, some (.int x4), some (.int x5)] [] Z I G C := by
  refine s_aload_n hJ d_34_100 rfl ?_
  refine s_aload_n hJ d_34_101 rfl ?_
  refine s_getr hJ lf_1_13 rfl d_34_102 k0 r0 ?_
  refine s_iload hJ d_34_105 rfl ?_
  refine s_iald hJ d_34_107 k1 (h0) ?_
  refine s_i2l hJ d_34_108 ?_
  refine s_iconst_4 hJ d_34_109 ?_
  exact s_V2 hJ lm_1_76 d_34_110 (Nat.le_of_ble_eq_true rfl) k0 (h1)
set_option maxRecDepth 4000 in
theorem b_34_113 {mc ms : Nat} {X : Option (Nat × (Nat → Int32))} {T : aj_Tt} {Q : aj_Q} {J : aj_J} (hJ : aj_Cl 1 c_34 (none) false mc ms X T Q J) {o0 : Nat} {x1 : Int32} {w2 : Option Value} {w3 : Option Value} {x4 : Int32} {w5 : Option Value} {Z : aj_Z} {I : aj_I} {G : aj_G} {C : Nat × Nat} (h0 : J 37 [some (.ref o0), some (.int x1), (aj_clr w2), some (.int 0), some (.int (x4 + 1)), w5] [] Z I G C) : J 113 [some (.ref o0), some (.int x1), w2, w3, some (.int x4), w5] [] Z I G C := by
  refine s_iconst_0 hJ d_34_113 ?_
  refine s_istore_n hJ d_34_114 (Nat.le_of_ble_eq_true rfl) ?_
  refine s_iinc (v := 1) hJ d_34_115 rfl (by decide) ?_
  refine s_goto (tgt := 37) hJ d_34_118 rfl ?_
  exact h0
