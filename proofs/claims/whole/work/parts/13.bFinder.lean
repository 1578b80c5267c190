/-! decode rows and block rows, by a program -/
-- ReelOfBoxes$Finder.stepOn()V : method 100
theorem d_100_0 : decode c_100 0 = .ok (.aload_n 0, 1) := by decide +kernel
theorem d_100_1 : decode c_100 1 = .ok (.getfield 24, 3) := by decide +kernel
theorem d_100_4 : decode c_100 4 = .ok (.iconst (3), 1) := by decide +kernel
theorem d_100_5 : decode c_100 5 = .ok (.if_icmp .ge (65), 3) := by decide +kernel
theorem d_100_8 : decode c_100 8 = .ok (.aload_n 0, 1) := by decide +kernel
theorem d_100_9 : decode c_100 9 = .ok (.getfield 47, 3) := by decide +kernel
theorem d_100_12 : decode c_100 12 = .ok (.getstatic 139, 3) := by decide +kernel
theorem d_100_15 : decode c_100 15 = .ok (.aload_n 0, 1) := by decide +kernel
theorem d_100_16 : decode c_100 16 = .ok (.getfield 24, 3) := by decide +kernel
theorem d_100_19 : decode c_100 19 = .ok (.iaload, 1) := by decide +kernel
theorem d_100_20 : decode c_100 20 = .ok (.if_icmp .ne (50), 3) := by decide +kernel
theorem d_100_23 : decode c_100 23 = .ok (.aload_n 0, 1) := by decide +kernel
theorem d_100_24 : decode c_100 24 = .ok (.dup, 1) := by decide +kernel
theorem d_100_25 : decode c_100 25 = .ok (.getfield 24, 3) := by decide +kernel
theorem d_100_28 : decode c_100 28 = .ok (.iconst (1), 1) := by decide +kernel
theorem d_100_29 : decode c_100 29 = .ok (.iadd, 1) := by decide +kernel
theorem d_100_30 : decode c_100 30 = .ok (.putfield 24, 3) := by decide +kernel
theorem d_100_33 : decode c_100 33 = .ok (.aload_n 0, 1) := by decide +kernel
theorem d_100_34 : decode c_100 34 = .ok (.getfield 17, 3) := by decide +kernel
theorem d_100_37 : decode c_100 37 = .ok (.aload_n 0, 1) := by decide +kernel
theorem d_100_38 : decode c_100 38 = .ok (.getfield 24, 3) := by decide +kernel
theorem d_100_41 : decode c_100 41 = .ok (.aload_n 0, 1) := by decide +kernel
theorem d_100_42 : decode c_100 42 = .ok (.getfield 44, 3) := by decide +kernel
theorem d_100_45 : decode c_100 45 = .ok (.iastore, 1) := by decide +kernel
theorem d_100_46 : decode c_100 46 = .ok (.aload_n 0, 1) := by decide +kernel
theorem d_100_47 : decode c_100 47 = .ok (.getfield 21, 3) := by decide +kernel
theorem d_100_50 : decode c_100 50 = .ok (.aload_n 0, 1) := by decide +kernel
theorem d_100_51 : decode c_100 51 = .ok (.getfield 24, 3) := by decide +kernel
theorem d_100_54 : decode c_100 54 = .ok (.aload_n 0, 1) := by decide +kernel
theorem d_100_55 : decode c_100 55 = .ok (.getfield 53, 3) := by decide +kernel
theorem d_100_58 : decode c_100 58 = .ok (.iastore, 1) := by decide +kernel
theorem d_100_59 : decode c_100 59 = .ok (.aload_n 0, 1) := by decide +kernel
theorem d_100_60 : decode c_100 60 = .ok (.aload_n 0, 1) := by decide +kernel
theorem d_100_61 : decode c_100 61 = .ok (.getfield 50, 3) := by decide +kernel
theorem d_100_64 : decode c_100 64 = .ok (.putfield 44, 3) := by decide +kernel
theorem d_100_67 : decode c_100 67 = .ok (.goto (11), 3) := by decide +kernel
theorem d_100_70 : decode c_100 70 = .ok (.aload_n 0, 1) := by decide +kernel
theorem d_100_71 : decode c_100 71 = .ok (.aload_n 0, 1) := by decide +kernel
theorem d_100_72 : decode c_100 72 = .ok (.getfield 53, 3) := by decide +kernel
theorem d_100_75 : decode c_100 75 = .ok (.putfield 44, 3) := by decide +kernel
theorem d_100_78 : decode c_100 78 = .ok (.return_, 1) := by decide +kernel
set_option maxRecDepth 4000 in
theorem b_100_0 {mc ms : Nat} {X : Option (Nat × (Nat → Int32))} {T : aj_Tt} {Q : aj_Q} {J : aj_J} (hJ : aj_Cl 4 c_100 (none) false mc ms X T Q J) {o0 : Nat} {q0 : Nat} {nk1 : Nat} {q1 : Nat} {nk3 : Nat} {Z : aj_Z} {I : aj_I} {G : aj_G} {C : Nat × Nat} (k0 : Z.2.1 o0 = some (.inl 4)) (h0 : 3 ≤ (I o0 5) → Q none Z (aj_u2 I o0 12 (I o0 15)) G) (h1 : ¬ 3 ≤ (I o0 5) → vp_in (I o0 5) aj_gn) (h2 : ¬ 3 ≤ (I o0 5) → ¬ (I o0 13) = (aj_gv (Int32.toNatClampNeg (I o0 5))) → Q none Z (aj_u2 I o0 12 (I o0 15)) G) (r0 : Z.2.2 o0 3 = .ref q0) (k1 : Z.2.1 q0 = some (.inr (0, nk1))) (h3 : ¬ 3 ≤ (I o0 5) → (I o0 13) = (aj_gv (Int32.toNatClampNeg (I o0 5))) → vp_in ((aj_u2 I o0 5 ((I o0 5) + 1)) o0 5) nk1) (r1 : Z.2.2 o0 4 = .ref q1) (k3 : Z.2.1 q1 = some (.inr (0, nk3))) (h4 : ¬ 3 ≤ (I o0 5) → (I o0 13) = (aj_gv (Int32.toNatClampNeg (I o0 5))) → vp_in ((aj_u2 (aj_u2 I o0 5 ((I o0 5) + 1)) q0 (Int32.toNatClampNeg ((aj_u2 I o0 5 ((I o0 5) + 1)) o0 5)) ((aj_u2 I o0 5 ((I o0 5) + 1)) o0 12)) o0 5) nk3) (h5 : ¬ 3 ≤ (I o0 5) → (I o0 13) = (aj_gv (Int32.toNatClampNeg (I o0 5))) → Q none Z (aj_u2 (aj_u2 (aj_u2 (aj_u2 I o0 5 ((I o0 5) + 1)) q0 (Int32.toNatClampNeg ((aj_u2 I o0 5 ((I o0 5) + 1)) o0 5)) ((aj_u2 I o0 5 ((I o0 5) + 1)) o0 12)) q1 (Int32.toNatClampNeg ((aj_u2 (aj_u2 I o0 5 ((I o0 5) + 1)) q0 (Int32.toNatClampNeg ((aj_u2 I o0 5 ((I o0 5) + 1)) o0 5)) ((aj_u2 I o0 5 ((I o0 5) + 1)) o0 12)) o0 5)) ((aj_u2 (aj_u2 I o0 5 ((I o0 5) + 1)) q0 (Int32.toNatClampNeg ((aj_u2 I o0 5 ((I o0 5) + 1)) o0 5)) ((aj_u2 I o0 5 ((I o0 5) + 1)) o0 12)) o0 15)) o0 12 ((aj_u2 (aj_u2 (aj_u2 I o0 5 ((I o0 5) + 1)) q0 (Int32.toNatClampNeg ((aj_u2 I o0 5 ((I o0 5) + 1)) o0 5)) ((aj_u2 I o0 5 ((I o0 5) + 1)) o0 12)) q1 (Int32.toNatClampNeg ((aj_u2 (aj_u2 I o0 5 ((I o0 5) + 1)) q0 (Int32.toNatClampNeg ((aj_u2 I o0 5 ((I o0 5) + 1)) o0 5)) ((aj_u2 I o0 5 ((I o0 5) + 1)) o0 12)) o0 5)) ((aj_u2 (aj_u2 I o0 5 ((I o0 5) + 1)) q0 (Int32.toNatClampNeg ((aj_u2 I o0 5 ((I o0 5) + 1)) o0 5)) ((aj_u2 I o0 5 ((I o0 5) + 1)) o0 12)) o0 15)) o0 14)) G) : J 0 [some (.ref o0)] [] Z I G C := by
  refine s_aload_n hJ d_100_0 rfl ?_
  refine s_geti hJ lf_4_24 rfl d_100_1 k0 ?_
  refine s_iconst_3 hJ d_100_4 ?_
  refine s_icmp_ge (tgt := 70) hJ d_100_5 rfl (fun c0 => ?_) (fun c0 => ?_)
  · skip
    refine s_aload_n hJ d_100_70 rfl ?_
    refine s_aload_n hJ d_100_71 rfl ?_
    refine s_geti hJ lf_4_53 rfl d_100_72 k0 ?_
    refine s_puti hJ lf_4_44 rfl d_100_75 k0 ?_
    exact s_vret hJ d_100_78 rfl (h0 c0)
  · skip
    refine s_aload_n hJ d_100_8 rfl ?_
    refine s_geti hJ lf_4_47 rfl d_100_9 k0 ?_
    refine s_gets hJ ls_4_139 d_100_12 ?_
    refine s_aload_n hJ d_100_15 rfl ?_
    refine s_geti hJ lf_4_24 rfl d_100_16 k0 ?_
    refine s_tald hJ d_100_19 (h1 c0) ?_
    refine s_icmp_ne (tgt := 70) hJ d_100_20 rfl (fun c1 => ?_) (fun c1 => ?_)
    · skip
      refine s_aload_n hJ d_100_70 rfl ?_
      refine s_aload_n hJ d_100_71 rfl ?_
      refine s_geti hJ lf_4_53 rfl d_100_72 k0 ?_
      refine s_puti hJ lf_4_44 rfl d_100_75 k0 ?_
      exact s_vret hJ d_100_78 rfl (h2 c0 c1)
    · skip
      refine s_aload_n hJ d_100_23 rfl ?_
      refine s_dup hJ d_100_24 rfl ?_
      refine s_geti hJ lf_4_24 rfl d_100_25 k0 ?_
      refine s_iconst_1 hJ d_100_28 ?_
      refine s_iadd hJ d_100_29 ?_
      refine s_puti hJ lf_4_24 rfl d_100_30 k0 ?_
      refine s_aload_n hJ d_100_33 rfl ?_
      refine s_getr hJ lf_4_17 rfl d_100_34 k0 r0 ?_
      refine s_aload_n hJ d_100_37 rfl ?_
      refine s_geti hJ lf_4_24 rfl d_100_38 k0 ?_
      refine s_aload_n hJ d_100_41 rfl ?_
      refine s_geti hJ lf_4_44 rfl d_100_42 k0 ?_
      refine s_iast hJ d_100_45 k1 (h3 c0 c1) ?_
      refine s_aload_n hJ d_100_46 rfl ?_
      refine s_getr hJ lf_4_21 rfl d_100_47 k0 r1 ?_
      refine s_aload_n hJ d_100_50 rfl ?_
      refine s_geti hJ lf_4_24 rfl d_100_51 k0 ?_
      refine s_aload_n hJ d_100_54 rfl ?_
      refine s_geti hJ lf_4_53 rfl d_100_55 k0 ?_
      refine s_iast hJ d_100_58 k3 (h4 c0 c1) ?_
      refine s_aload_n hJ d_100_59 rfl ?_
      refine s_aload_n hJ d_100_60 rfl ?_
      refine s_geti hJ lf_4_50 rfl d_100_61 k0 ?_
      refine s_puti hJ lf_4_44 rfl d_100_64 k0 ?_
      refine s_goto (tgt := 78) hJ d_100_67 rfl ?_
      exact s_vret hJ d_100_78 rfl (h5 c0 c1)
-- ReelOfBoxes$Finder.levelIsWhole()Z : method 101
theorem d_101_0 : decode c_101 0 = .ok (.aload_n 0, 1) := by decide +kernel
theorem d_101_1 : decode c_101 1 = .ok (.getfield 24, 3) := by decide +kernel
theorem d_101_4 : decode c_101 4 = .ok (.tableswitch (68) (0) (3) #[(32), (68), (52), (60)], 32) := by decide +kernel
theorem d_101_36 : decode c_101 36 = .ok (.aload_n 0, 1) := by decide +kernel
theorem d_101_37 : decode c_101 37 = .ok (.getfield 28, 3) := by decide +kernel
theorem d_101_40 : decode c_101 40 = .ok (.ifCond .eq (14), 3) := by decide +kernel
theorem d_101_43 : decode c_101 43 = .ok (.aload_n 0, 1) := by decide +kernel
theorem d_101_44 : decode c_101 44 = .ok (.getfield 32, 3) := by decide +kernel
theorem d_101_47 : decode c_101 47 = .ok (.ifCond .eq (7), 3) := by decide +kernel
theorem d_101_50 : decode c_101 50 = .ok (.iconst (1), 1) := by decide +kernel
theorem d_101_51 : decode c_101 51 = .ok (.goto (4), 3) := by decide +kernel
theorem d_101_54 : decode c_101 54 = .ok (.iconst (0), 1) := by decide +kernel
theorem d_101_55 : decode c_101 55 = .ok (.ireturn, 1) := by decide +kernel
theorem d_101_56 : decode c_101 56 = .ok (.aload_n 0, 1) := by decide +kernel
theorem d_101_57 : decode c_101 57 = .ok (.getfield 67, 3) := by decide +kernel
theorem d_101_60 : decode c_101 60 = .ok (.invokevirtual 142, 3) := by decide +kernel
theorem d_101_63 : decode c_101 63 = .ok (.ireturn, 1) := by decide +kernel
theorem d_101_64 : decode c_101 64 = .ok (.aload_n 0, 1) := by decide +kernel
theorem d_101_65 : decode c_101 65 = .ok (.getfield 67, 3) := by decide +kernel
theorem d_101_68 : decode c_101 68 = .ok (.invokevirtual 145, 3) := by decide +kernel
theorem d_101_71 : decode c_101 71 = .ok (.ireturn, 1) := by decide +kernel
theorem d_101_72 : decode c_101 72 = .ok (.iconst (1), 1) := by decide +kernel
theorem d_101_73 : decode c_101 73 = .ok (.ireturn, 1) := by decide +kernel
set_option maxRecDepth 4000 in
theorem b_101_0 {mc ms : Nat} {X : Option (Nat × (Nat → Int32))} {T : aj_Tt} {Q : aj_Q} {J : aj_J} (hJ : aj_Cl 4 c_101 (some .boolean) false mc ms X T Q J) {o0 : Nat} {q0 : Nat} {Z : aj_Z} {I : aj_I} {G : aj_G} {C : Nat × Nat} (k0 : Z.2.1 o0 = some (.inl 4)) (h0 : (I o0 5) = 0 → (I o0 6) = 0 → Q (some (.int 0)) Z I G) (h1 : (I o0 5) = 0 → ¬ (I o0 6) = 0 → (I o0 7) = 0 → Q (some (.int 0)) Z I G) (h2 : (I o0 5) = 0 → ¬ (I o0 6) = 0 → ¬ (I o0 7) = 0 → Q (some (.int 1)) Z I G) (h3 : ¬ (I o0 5) = 0 → (I o0 5) = 1 → Q (some (.int 1)) Z I G) (r0 : Z.2.2 o0 11 = .ref q0) (k1 : Z.2.1 q0 = some (.inl 9)) (h4 : ¬ (I o0 5) = 0 → ¬ (I o0 5) = 1 → (I o0 5) = 2 → T 0 0 140 [.ref q0] Z I G (fun r Z1 I1 G1 => J 63 [some (.ref o0)] (r.toList ++ []) Z1 I1 G1 C)) (h5 : ¬ (I o0 5) = 0 → ¬ (I o0 5) = 1 → ¬ (I o0 5) = 2 → (I o0 5) = 3 → T 0 0 143 [.ref q0] Z I G (fun r Z1 I1 G1 => J 71 [some (.ref o0)] (r.toList ++ []) Z1 I1 G1 C)) (h6 : ¬ (I o0 5) = 0 → ¬ (I o0 5) = 1 → ¬ (I o0 5) = 2 → ¬ (I o0 5) = 3 → Q (some (.int 1)) Z I G) : J 0 [some (.ref o0)] [] Z I G C := by
  refine s_aload_n hJ d_101_0 rfl ?_
  refine s_geti hJ lf_4_24 rfl d_101_1 k0 ?_
  by_cases c0 : (I o0 5) = 0
  · skip
    refine s_tableIn (off := 32) (tgt := 36) hJ d_101_4 (by rw [c0]; decide) (by rw [c0]; decide) (by rw [c0]; decide) rfl ?_
    refine s_aload_n hJ d_101_36 rfl ?_
    refine s_geti hJ lf_4_28 rfl d_101_37 k0 ?_
    refine s_if_eq (tgt := 54) hJ d_101_40 rfl (fun c1 => ?_) (fun c1 => ?_)
    · skip
      refine s_iconst_0 hJ d_101_54 ?_
      exact s_iret hJ d_101_55 rfl rfl (h0 c0 c1)
    · skip
      refine s_aload_n hJ d_101_43 rfl ?_
      refine s_geti hJ lf_4_32 rfl d_101_44 k0 ?_
      refine s_if_eq (tgt := 54) hJ d_101_47 rfl (fun c2 => ?_) (fun c2 => ?_)
      · skip
        refine s_iconst_0 hJ d_101_54 ?_
        exact s_iret hJ d_101_55 rfl rfl (h1 c0 c1 c2)
      · skip
        refine s_iconst_1 hJ d_101_50 ?_
        refine s_goto (tgt := 55) hJ d_101_51 rfl ?_
        exact s_iret hJ d_101_55 rfl rfl (h2 c0 c1 c2)
  by_cases c1 : (I o0 5) = 1
  · skip
    refine s_tableIn (off := 68) (tgt := 72) hJ d_101_4 (by rw [c1]; decide) (by rw [c1]; decide) (by rw [c1]; decide) rfl ?_
    refine s_iconst_1 hJ d_101_72 ?_
    exact s_iret hJ d_101_73 rfl rfl (h3 c0 c1)
  by_cases c2 : (I o0 5) = 2
  · skip
    refine s_tableIn (off := 52) (tgt := 56) hJ d_101_4 (by rw [c2]; decide) (by rw [c2]; decide) (by rw [c2]; decide) rfl ?_
    refine s_aload_n hJ d_101_56 rfl ?_
    refine s_getr hJ lf_4_67 rfl d_101_57 k0 r0 ?_
    exact s_V0 hJ lm_4_142 d_101_60 (Nat.le_of_ble_eq_true rfl) k1 (h4 c0 c1 c2)
  by_cases c3 : (I o0 5) = 3
  · skip
    refine s_tableIn (off := 60) (tgt := 64) hJ d_101_4 (by rw [c3]; decide) (by rw [c3]; decide) (by rw [c3]; decide) rfl ?_
    refine s_aload_n hJ d_101_64 rfl ?_
    refine s_getr hJ lf_4_67 rfl d_101_65 k0 r0 ?_
    exact s_V0 hJ lm_4_145 d_101_68 (Nat.le_of_ble_eq_true rfl) k1 (h5 c0 c1 c2 c3)
  refine s_tableOut (tgt := 72) hJ d_101_4 (by have := lv_neT (k := 0) (a := 0) c0 (by decide); have := lv_neT (k := 1) (a := 1) c1 (by decide); have := lv_neT (k := 2) (a := 2) c2 (by decide); have := lv_neT (k := 3) (a := 3) c3 (by decide); omega) rfl ?_
  refine s_iconst_1 hJ d_101_72 ?_
  exact s_iret hJ d_101_73 rfl rfl (h6 c0 c1 c2 c3)
set_option maxRecDepth 4000 in
theorem b_101_63 {mc ms : Nat} {X : Option (Nat × (Nat → Int32))} {T : aj_Tt} {Q : aj_Q} {J : aj_J} (hJ : aj_Cl 4 c_101 (some .boolean) false mc ms X T Q J) {w0 : Option Value} {s0 : Int32} {Z : aj_Z} {I : aj_I} {G : aj_G} {C : Nat × Nat} (h0 : narrow .boolean (.int s0) = .int s0) (h1 : Q (some (.int s0)) Z I G) : J 63 [w0] [.int s0] Z I G C := by
  exact s_iret hJ d_101_63 rfl (h0) (h1)
set_option maxRecDepth 4000 in
theorem b_101_71 {mc ms : Nat} {X : Option (Nat × (Nat → Int32))} {T : aj_Tt} {Q : aj_Q} {J : aj_J} (hJ : aj_Cl 4 c_101 (some .boolean) false mc ms X T Q J) {w0 : Option Value} {s0 : Int32} {Z : aj_Z} {I : aj_I} {G : aj_G} {C : Nat × Nat} (h0 : narrow .boolean (.int s0) = .int s0) (h1 : Q (some (.int s0)) Z I G) : J 71 [w0] [.int s0] Z I G C := by
  exact s_iret hJ d_101_71 rfl (h0) (h1)
-- ReelOfBoxes$Reader.<init>(LReelOfBoxes$ByteRow;)V : method 102
theorem d_102_0 : decode c_102 0 = .ok (.aload_n 0, 1) := by decide +kernel
theorem d_102_1 : decode c_102 1 = .ok (.invokespecial 3, 3) := by decide +kernel
theorem d_102_4 : decode c_102 4 = .ok (.aload_n 0, 1) := by decide +kernel
theorem d_102_5 : decode c_102 5 = .ok (.aload_n 1, 1) := by decide +kernel
theorem d_102_6 : decode c_102 6 = .ok (.putfield 9, 3) := by decide +kernel
theorem d_102_9 : decode c_102 9 = .ok (.aload_n 0, 1) := by decide +kernel
theorem d_102_10 : decode c_102 10 = .ok (.new 15, 3) := by decide +kernel
theorem d_102_13 : decode c_102 13 = .ok (.dup, 1) := by decide +kernel
theorem d_102_14 : decode c_102 14 = .ok (.invokespecial 17, 3) := by decide +kernel
theorem d_102_17 : decode c_102 17 = .ok (.putfield 18, 3) := by decide +kernel
theorem d_102_20 : decode c_102 20 = .ok (.aload_n 0, 1) := by decide +kernel
theorem d_102_21 : decode c_102 21 = .ok (.new 22, 3) := by decide +kernel
theorem d_102_24 : decode c_102 24 = .ok (.dup, 1) := by decide +kernel
theorem d_102_25 : decode c_102 25 = .ok (.aload_n 1, 1) := by decide +kernel
theorem d_102_26 : decode c_102 26 = .ok (.aload_n 0, 1) := by decide +kernel
theorem d_102_27 : decode c_102 27 = .ok (.getfield 18, 3) := by decide +kernel
theorem d_102_30 : decode c_102 30 = .ok (.invokespecial 24, 3) := by decide +kernel
theorem d_102_33 : decode c_102 33 = .ok (.putfield 27, 3) := by decide +kernel
theorem d_102_36 : decode c_102 36 = .ok (.return_, 1) := by decide +kernel
-- ReelOfBoxes$Reader.faultPlace()I : method 103
theorem d_103_0 : decode c_103 0 = .ok (.aload_n 0, 1) := by decide +kernel
theorem d_103_1 : decode c_103 1 = .ok (.getfield 18, 3) := by decide +kernel
theorem d_103_4 : decode c_103 4 = .ok (.getfield 31, 3) := by decide +kernel
theorem d_103_7 : decode c_103 7 = .ok (.ireturn, 1) := by decide +kernel
set_option maxRecDepth 4000 in
theorem b_103_0 {mc ms : Nat} {X : Option (Nat × (Nat → Int32))} {T : aj_Tt} {Q : aj_Q} {J : aj_J} (hJ : aj_Cl 5 c_103 (some .int) false mc ms X T Q J) {o0 : Nat} {q0 : Nat} {Z : aj_Z} {I : aj_I} {G : aj_G} {C : Nat × Nat} (k0 : Z.2.1 o0 = some (.inl 5)) (r0 : Z.2.2 o0 1 = .ref q0) (k1 : Z.2.1 q0 = some (.inl 3)) (h0 : Q (some (.int (I q0 1))) Z I G) : J 0 [some (.ref o0)] [] Z I G C := by
  refine s_aload_n hJ d_103_0 rfl ?_
  refine s_getr hJ lf_5_18 rfl d_103_1 k0 r0 ?_
  refine s_geti hJ lf_5_31 rfl d_103_4 k1 ?_
  exact s_iret hJ d_103_7 rfl rfl (h0)
-- ReelOfBoxes$Reader.readInto(LReelOfBoxes$Reel;)I : method 104
theorem d_104_0 : decode c_104 0 = .ok (.aload_n 0, 1) := by decide +kernel
theorem d_104_1 : decode c_104 1 = .ok (.getfield 18, 3) := by decide +kernel
theorem d_104_4 : decode c_104 4 = .ok (.invokevirtual 35, 3) := by decide +kernel
theorem d_104_7 : decode c_104 7 = .ok (.aload_n 0, 1) := by decide +kernel
theorem d_104_8 : decode c_104 8 = .ok (.getfield 27, 3) := by decide +kernel
theorem d_104_11 : decode c_104 11 = .ok (.invokevirtual 38, 3) := by decide +kernel
theorem d_104_14 : decode c_104 14 = .ok (.ifCond .eq (29), 3) := by decide +kernel
theorem d_104_17 : decode c_104 17 = .ok (.aload_n 0, 1) := by decide +kernel
theorem d_104_18 : decode c_104 18 = .ok (.invokevirtual 42, 3) := by decide +kernel
theorem d_104_21 : decode c_104 21 = .ok (.ifCond .eq (22), 3) := by decide +kernel
theorem d_104_24 : decode c_104 24 = .ok (.aload_n 0, 1) := by decide +kernel
theorem d_104_25 : decode c_104 25 = .ok (.invokevirtual 45, 3) := by decide +kernel
theorem d_104_28 : decode c_104 28 = .ok (.ifCond .eq (15), 3) := by decide +kernel
theorem d_104_31 : decode c_104 31 = .ok (.aload_n 0, 1) := by decide +kernel
theorem d_104_32 : decode c_104 32 = .ok (.invokevirtual 48, 3) := by decide +kernel
theorem d_104_35 : decode c_104 35 = .ok (.ifCond .eq (8), 3) := by decide +kernel
theorem d_104_38 : decode c_104 38 = .ok (.aload_n 0, 1) := by decide +kernel
theorem d_104_39 : decode c_104 39 = .ok (.aload_n 1, 1) := by decide +kernel
theorem d_104_40 : decode c_104 40 = .ok (.invokevirtual 51, 3) := by decide +kernel
theorem d_104_43 : decode c_104 43 = .ok (.aload_n 0, 1) := by decide +kernel
theorem d_104_44 : decode c_104 44 = .ok (.getfield 18, 3) := by decide +kernel
theorem d_104_47 : decode c_104 47 = .ok (.getfield 55, 3) := by decide +kernel
theorem d_104_50 : decode c_104 50 = .ok (.ireturn, 1) := by decide +kernel
set_option maxRecDepth 4000 in
theorem b_104_0 {mc ms : Nat} {X : Option (Nat × (Nat → Int32))} {T : aj_Tt} {Q : aj_Q} {J : aj_J} (hJ : aj_Cl 5 c_104 (some .int) false mc ms X T Q J) {o0 : Nat} {o1 : Nat} {q0 : Nat} {Z : aj_Z} {I : aj_I} {G : aj_G} {C : Nat × Nat} (k0 : Z.2.1 o0 = some (.inl 5)) (r0 : Z.2.2 o0 1 = .ref q0) (k1 : Z.2.1 q0 = some (.inl 3)) (h0 : T 0 0 89 [.ref q0] Z I G (fun r Z1 I1 G1 => J 7 [some (.ref o0), some (.ref o1)] (r.toList ++ []) Z1 I1 G1 C)) : J 0 [some (.ref o0), some (.ref o1)] [] Z I G C := by
  refine s_aload_n hJ d_104_0 rfl ?_
  refine s_getr hJ lf_5_18 rfl d_104_1 k0 r0 ?_
  exact s_V0 hJ lm_5_35 d_104_4 (Nat.le_of_ble_eq_true rfl) k1 (h0)
set_option maxRecDepth 4000 in
theorem b_104_7 {mc ms : Nat} {X : Option (Nat × (Nat → Int32))} {T : aj_Tt} {Q : aj_Q} {J : aj_J} (hJ : aj_Cl 5 c_104 (some .int) false mc ms X T Q J) {o0 : Nat} {o1 : Nat} {q0 : Nat} {Z : aj_Z} {I : aj_I} {G : aj_G} {C : Nat × Nat} (k0 : Z.2.1 o0 = some (.inl 5)) (r0 : Z.2.2 o0 2 = .ref q0) (k1 : Z.2.1 q0 = some (.inl 4)) (h0 : T 0 0 92 [.ref q0] Z I G (fun r Z1 I1 G1 => J 14 [some (.ref o0), some (.ref o1)] (r.toList ++ []) Z1 I1 G1 C)) : J 7 [some (.ref o0), some (.ref o1)] [] Z I G C := by
  refine s_aload_n hJ d_104_7 rfl ?_
  refine s_getr hJ lf_5_27 rfl d_104_8 k0 r0 ?_
  exact s_V0 hJ lm_5_38 d_104_11 (Nat.le_of_ble_eq_true rfl) k1 (h0)
set_option maxRecDepth 4000 in
theorem b_104_14 {mc ms : Nat} {X : Option (Nat × (Nat → Int32))} {T : aj_Tt} {Q : aj_Q} {J : aj_J} (hJ : aj_Cl 5 c_104 (some .int) false mc ms X T Q J) {o0 : Nat} {o1 : Nat} {s0 : Int32} {Z : aj_Z} {I : aj_I} {G : aj_G} {C : Nat × Nat} (h0 : s0 = 0 → J 43 [some (.ref o0), some (.ref o1)] [] Z I G C) (k0 : Z.2.1 o0 = some (.inl 5)) (h1 : ¬ s0 = 0 → T 0 0 105 [.ref o0] Z I G (fun r Z1 I1 G1 => J 21 [some (.ref o0), some (.ref o1)] (r.toList ++ []) Z1 I1 G1 C)) : J 14 [some (.ref o0), some (.ref o1)] [.int s0] Z I G C := by
  refine s_if_eq (tgt := 43) hJ d_104_14 rfl (fun c0 => ?_) (fun c0 => ?_)
  · skip
    exact h0 c0
  · skip
    refine s_aload_n hJ d_104_17 rfl ?_
    exact s_V0 hJ lm_5_42 d_104_18 (Nat.le_of_ble_eq_true rfl) k0 (h1 c0)
set_option maxRecDepth 4000 in
theorem b_104_21 {mc ms : Nat} {X : Option (Nat × (Nat → Int32))} {T : aj_Tt} {Q : aj_Q} {J : aj_J} (hJ : aj_Cl 5 c_104 (some .int) false mc ms X T Q J) {o0 : Nat} {o1 : Nat} {s0 : Int32} {Z : aj_Z} {I : aj_I} {G : aj_G} {C : Nat × Nat} (h0 : s0 = 0 → J 43 [some (.ref o0), some (.ref o1)] [] Z I G C) (k0 : Z.2.1 o0 = some (.inl 5)) (h1 : ¬ s0 = 0 → T 0 0 106 [.ref o0] Z I G (fun r Z1 I1 G1 => J 28 [some (.ref o0), some (.ref o1)] (r.toList ++ []) Z1 I1 G1 C)) : J 21 [some (.ref o0), some (.ref o1)] [.int s0] Z I G C := by
  refine s_if_eq (tgt := 43) hJ d_104_21 rfl (fun c0 => ?_) (fun c0 => ?_)
  · skip
    exact h0 c0
  · skip
    refine s_aload_n hJ d_104_24 rfl ?_
    exact s_V0 hJ lm_5_45 d_104_25 (Nat.le_of_ble_eq_true rfl) k0 (h1 c0)
set_option maxRecDepth 4000 in
theorem b_104_28 {mc ms : Nat} {X : Option (Nat × (Nat → Int32))} {T : aj_Tt} {Q : aj_Q} {J : aj_J} (hJ : aj_Cl 5 c_104 (some .int) false mc ms X T Q J) {o0 : Nat} {o1 : Nat} {s0 : Int32} {Z : aj_Z} {I : aj_I} {G : aj_G} {C : Nat × Nat} (h0 : s0 = 0 → J 43 [some (.ref o0), some (.ref o1)] [] Z I G C) (k0 : Z.2.1 o0 = some (.inl 5)) (h1 : ¬ s0 = 0 → T 0 0 107 [.ref o0] Z I G (fun r Z1 I1 G1 => J 35 [some (.ref o0), some (.ref o1)] (r.toList ++ []) Z1 I1 G1 C)) : J 28 [some (.ref o0), some (.ref o1)] [.int s0] Z I G C := by
  refine s_if_eq (tgt := 43) hJ d_104_28 rfl (fun c0 => ?_) (fun c0 => ?_)
  · skip
    exact h0 c0
  · skip
    refine s_aload_n hJ d_104_31 rfl ?_
    exact s_V0 hJ lm_5_48 d_104_32 (Nat.le_of_ble_eq_true rfl) k0 (h1 c0)
set_option maxRecDepth 4000 in
theorem b_104_35 {mc ms : Nat} {X : Option (Nat × (Nat → Int32))} {T : aj_Tt} {Q : aj_Q} {J : aj_J} (hJ : aj_Cl 5 c_104 (some .int) false mc ms X T Q J) {o0 : Nat} {o1 : Nat} {s0 : Int32} {Z : aj_Z} {I : aj_I} {G : aj_G} {C : Nat × Nat} (h0 : s0 = 0 → J 43 [some (.ref o0), some (.ref o1)] [] Z I G C) (k0 : Z.2.1 o0 = some (.inl 5)) (h1 : ¬ s0 = 0 → T 0 0 108 [.ref o0, .ref o1] Z I G (fun r Z1 I1 G1 => J 43 [some (.ref o0), some (.ref o1)] (r.toList ++ []) Z1 I1 G1 C)) : J 35 [some (.ref o0), some (.ref o1)] [.int s0] Z I G C := by
  refine s_if_eq (tgt := 43) hJ d_104_35 rfl (fun c0 => ?_) (fun c0 => ?_)
  · skip
    exact h0 c0
  · skip
    refine s_aload_n hJ d_104_38 rfl ?_
    refine s_aload_n hJ d_104_39 rfl ?_
    exact s_V1 hJ lm_5_51 d_104_40 (Nat.le_of_ble_eq_true rfl) k0 (h1 c0)
set_option maxRecDepth 4000 in
theorem b_104_43 {mc ms : Nat} {X : Option (Nat × (Nat → Int32))} {T : aj_Tt} {Q : aj_Q} {J : aj_J} (hJ : aj_Cl 5 c_104 (some .int) false mc ms X T Q J) {o0 : Nat} {w1 : Option Value} {q0 : Nat} {Z : aj_Z} {I : aj_I} {G : aj_G} {C : Nat × Nat} (k0 : Z.2.1 o0 = some (.inl 5)) (r0 : Z.2.2 o0 1 = .ref q0) (k1 : Z.2.1 q0 = some (.inl 3)) (h0 : Q (some (.int (I q0 0))) Z I G) : J 43 [some (.ref o0), w1] [] Z I G C := by
  refine s_aload_n hJ d_104_43 rfl ?_
  refine s_getr hJ lf_5_18 rfl d_104_44 k0 r0 ?_
  refine s_geti hJ lf_5_55 rfl d_104_47 k1 ?_
  exact s_iret hJ d_104_50 rfl rfl (h0)
-- ReelOfBoxes$Reader.tablesAreRight()Z : method 105
theorem d_105_0 : decode c_105 0 = .ok (.iconst (0), 1) := by decide +kernel
theorem d_105_1 : decode c_105 1 = .ok (.istore_n 1, 1) := by decide +kernel
theorem d_105_2 : decode c_105 2 = .ok (.iload_n 1, 1) := by decide +kernel
theorem d_105_3 : decode c_105 3 = .ok (.aload_n 0, 1) := by decide +kernel
theorem d_105_4 : decode c_105 4 = .ok (.getfield 27, 3) := by decide +kernel
theorem d_105_7 : decode c_105 7 = .ok (.getfield 58, 3) := by decide +kernel
theorem d_105_10 : decode c_105 10 = .ok (.if_icmp .ge (62), 3) := by decide +kernel
theorem d_105_13 : decode c_105 13 = .ok (.iconst (0), 1) := by decide +kernel
theorem d_105_14 : decode c_105 14 = .ok (.istore_n 2, 1) := by decide +kernel
theorem d_105_15 : decode c_105 15 = .ok (.iload_n 2, 1) := by decide +kernel
theorem d_105_16 : decode c_105 16 = .ok (.iconst (4), 1) := by decide +kernel
theorem d_105_17 : decode c_105 17 = .ok (.if_icmp .ge (49), 3) := by decide +kernel
theorem d_105_20 : decode c_105 20 = .ok (.aload_n 0, 1) := by decide +kernel
theorem d_105_21 : decode c_105 21 = .ok (.getfield 27, 3) := by decide +kernel
theorem d_105_24 : decode c_105 24 = .ok (.getfield 61, 3) := by decide +kernel
theorem d_105_27 : decode c_105 27 = .ok (.iload_n 1, 1) := by decide +kernel
theorem d_105_28 : decode c_105 28 = .ok (.aaload, 1) := by decide +kernel
theorem d_105_29 : decode c_105 29 = .ok (.getfield 65, 3) := by decide +kernel
theorem d_105_32 : decode c_105 32 = .ok (.iload_n 2, 1) := by decide +kernel
theorem d_105_33 : decode c_105 33 = .ok (.aaload, 1) := by decide +kernel
theorem d_105_34 : decode c_105 34 = .ok (.astore_n 3, 1) := by decide +kernel
theorem d_105_35 : decode c_105 35 = .ok (.aload_n 3, 1) := by decide +kernel
theorem d_105_36 : decode c_105 36 = .ok (.invokevirtual 71, 3) := by decide +kernel
theorem d_105_39 : decode c_105 39 = .ok (.istore 4, 2) := by decide +kernel
theorem d_105_41 : decode c_105 41 = .ok (.iload 4, 2) := by decide +kernel
theorem d_105_43 : decode c_105 43 = .ok (.ifCond .eq (17), 3) := by decide +kernel
theorem d_105_46 : decode c_105 46 = .ok (.aload_n 0, 1) := by decide +kernel
theorem d_105_47 : decode c_105 47 = .ok (.getfield 18, 3) := by decide +kernel
theorem d_105_50 : decode c_105 50 = .ok (.iload 4, 2) := by decide +kernel
theorem d_105_52 : decode c_105 52 = .ok (.aload_n 3, 1) := by decide +kernel
theorem d_105_53 : decode c_105 53 = .ok (.getfield 77, 3) := by decide +kernel
theorem d_105_56 : decode c_105 56 = .ok (.invokevirtual 80, 3) := by decide +kernel
theorem d_105_59 : decode c_105 59 = .ok (.ireturn, 1) := by decide +kernel
theorem d_105_60 : decode c_105 60 = .ok (.iinc 2 (1), 3) := by decide +kernel
theorem d_105_63 : decode c_105 63 = .ok (.goto (-48), 3) := by decide +kernel
theorem d_105_66 : decode c_105 66 = .ok (.iinc 1 (1), 3) := by decide +kernel
theorem d_105_69 : decode c_105 69 = .ok (.goto (-67), 3) := by decide +kernel
theorem d_105_72 : decode c_105 72 = .ok (.iconst (1), 1) := by decide +kernel
theorem d_105_73 : decode c_105 73 = .ok (.ireturn, 1) := by decide +kernel
set_option maxRecDepth 4000 in
theorem b_105_0 {mc ms : Nat} {X : Option (Nat × (Nat → Int32))} {T : aj_Tt} {Q : aj_Q} {J : aj_J} (hJ : aj_Cl 5 c_105 (some .boolean) false mc ms X T Q J) {o0 : Nat} {Z : aj_Z} {I : aj_I} {G : aj_G} {C : Nat × Nat} (h0 : J 2 [some (.ref o0), some (.int 0), none, none, none] [] Z I G C) : J 0 [some (.ref o0), none, none, none, none] [] Z I G C := by
  refine s_iconst_0 hJ d_105_0 ?_
  refine s_istore_n hJ d_105_1 (Nat.le_of_ble_eq_true rfl) ?_
  exact h0
set_option maxRecDepth 4000 in
theorem b_105_2 {mc ms : Nat} {X : Option (Nat × (Nat → Int32))} {T : aj_Tt} {Q : aj_Q} {J : aj_J} (hJ : aj_Cl 5 c_105 (some .boolean) false mc ms X T Q J) {o0 : Nat} {x1 : Int32} {w2 : Option Value} {w3 : Option Value} {w4 : Option Value} {q0 : Nat} {Z : aj_Z} {I : aj_I} {G : aj_G} {C : Nat × Nat} (k0 : Z.2.1 o0 = some (.inl 5)) (r0 : Z.2.2 o0 2 = .ref q0) (k1 : Z.2.1 q0 = some (.inl 4)) (h0 : (I q0 10) ≤ x1 → Q (some (.int 1)) Z I G) (h1 : ¬ (I q0 10) ≤ x1 → J 15 [some (.ref o0), some (.int x1), some (.int 0), w3, w4] [] Z I G C) : J 2 [some (.ref o0), some (.int x1), w2, w3, w4] [] Z I G C := by
  refine s_iload_n hJ d_105_2 rfl ?_
  refine s_aload_n hJ d_105_3 rfl ?_
  refine s_getr hJ lf_5_27 rfl d_105_4 k0 r0 ?_
  refine s_geti hJ lf_5_58 rfl d_105_7 k1 ?_
  refine s_icmp_ge (tgt := 72) hJ d_105_10 rfl (fun c0 => ?_) (fun c0 => ?_)
  · skip
    refine s_iconst_1 hJ d_105_72 ?_
    exact s_iret hJ d_105_73 rfl rfl (h0 c0)
  · skip
    refine s_iconst_0 hJ d_105_13 ?_
    refine s_istore_n hJ d_105_14 (Nat.le_of_ble_eq_true rfl) ?_
    exact h1 c0
set_option maxRecDepth 4000 in
theorem b_105_15 {mc ms : Nat} {X : Option (Nat × (Nat → Int32))} {T : aj_Tt} {Q : aj_Q} {J : aj_J} (hJ : aj_Cl 5 c_105 (some .boolean) false mc ms X T Q J) {o0 : Nat} {x1 : Int32} {x2 : Int32} {w3 : Option Value} {w4 : Option Value} {q0 : Nat} {q1 : Nat} {nk2 : Nat} {q2 : Nat} {q3 : Nat} {nk5 : Nat} {q4 : Nat} {Z : aj_Z} {I : aj_I} {G : aj_G} {C : Nat × Nat} (h0 : 4 ≤ x2 → J 2 [some (.ref o0), some (.int (x1 + 1)), some (.int x2), w3, w4] [] Z I G C) (k0 : Z.2.1 o0 = some (.inl 5)) (r0 : Z.2.2 o0 2 = .ref q0) (k1 : Z.2.1 q0 = some (.inl 4)) (r1 : Z.2.2 q0 2 = .ref q1) (k2 : Z.2.1 q1 = some (.inr (4, nk2))) (h1 : ¬ 4 ≤ x2 → vp_in x1 nk2) (h2 : ¬ 4 ≤ x2 → Z.2.2 q1 (Int32.toNatClampNeg x1) = .ref q2) (k4 : Z.2.1 q2 = some (.inl 9)) (r3 : Z.2.2 q2 0 = .ref q3) (k5 : Z.2.1 q3 = some (.inr (6, nk5))) (h3 : ¬ 4 ≤ x2 → vp_in x2 nk5) (h4 : ¬ 4 ≤ x2 → Z.2.2 q3 (Int32.toNatClampNeg x2) = .ref q4) (k7 : Z.2.1 q4 = some (.inl 7)) (h5 : ¬ 4 ≤ x2 → T 0 0 124 [.ref q4] Z I G (fun r Z1 I1 G1 => J 39 [some (.ref o0), some (.int x1), some (.int x2), some (.ref q4), w4] (r.toList ++ []) Z1 I1 G1 C)) : J 15 [some (.ref o0), some (.int x1), some (.int x2), w3, w4] [] Z I G C := by
  refine s_iload_n hJ d_105_15 rfl ?_
  refine s_iconst_4 hJ d_105_16 ?_
  refine s_icmp_ge (tgt := 66) hJ d_105_17 rfl (fun c0 => ?_) (fun c0 => ?_)
  · skip
    refine s_iinc (v := 1) hJ d_105_66 rfl (by decide) ?_
    refine s_goto (tgt := 2) hJ d_105_69 rfl ?_
    exact h0 c0
  · skip
    refine s_aload_n hJ d_105_20 rfl ?_
    refine s_getr hJ lf_5_27 rfl d_105_21 k0 r0 ?_
    refine s_getr hJ lf_5_61 rfl d_105_24 k1 r1 ?_
    refine s_iload_n hJ d_105_27 rfl ?_
    refine s_aald hJ d_105_28 k2 tc_4 (h1 c0) (h2 c0) ?_
    refine s_getr hJ lf_5_65 rfl d_105_29 k4 r3 ?_
    refine s_iload_n hJ d_105_32 rfl ?_
    refine s_aald hJ d_105_33 k5 tc_6 (h3 c0) (h4 c0) ?_
    refine s_astore_n hJ d_105_34 (Nat.le_of_ble_eq_true rfl) ?_
    refine s_aload_n hJ d_105_35 rfl ?_
    exact s_V0 hJ lm_5_71 d_105_36 (Nat.le_of_ble_eq_true rfl) k7 (h5 c0)
set_option maxRecDepth 4000 in
theorem b_105_39 {mc ms : Nat} {X : Option (Nat × (Nat → Int32))} {T : aj_Tt} {Q : aj_Q} {J : aj_J} (hJ : aj_Cl 5 c_105 (some .boolean) false mc ms X T Q J) {o0 : Nat} {x1 : Int32} {x2 : Int32} {o3 : Nat} {w4 : Option Value} {s0 : Int32} {q0 : Nat} {Z : aj_Z} {I : aj_I} {G : aj_G} {C : Nat × Nat} (h0 : s0 = 0 → J 15 [some (.ref o0), some (.int x1), some (.int (x2 + 1)), some (.ref o3), some (.int s0)] [] Z I G C) (k0 : Z.2.1 o0 = some (.inl 5)) (r0 : Z.2.2 o0 1 = .ref q0) (k1 : Z.2.1 o3 = some (.inl 7)) (k2 : Z.2.1 q0 = some (.inl 3)) (h1 : ¬ s0 = 0 → T 0 0 90 [.ref q0, .int s0, .int (I o3 1)] Z I G (fun r Z1 I1 G1 => J 59 [some (.ref o0), some (.int x1), some (.int x2), some (.ref o3), some (.int s0)] (r.toList ++ []) Z1 I1 G1 C)) : J 39 [some (.ref o0), some (.int x1), some (.int x2), some (.ref o3), w4] [.int s0] Z I G C := by
  refine s_istore hJ d_105_39 (Nat.le_of_ble_eq_true rfl) ?_
  refine s_iload hJ d_105_41 rfl ?_
  refine s_if_eq (tgt := 60) hJ d_105_43 rfl (fun c0 => ?_) (fun c0 => ?_)
  · skip
    refine s_iinc (v := 1) hJ d_105_60 rfl (by decide) ?_
    refine s_goto (tgt := 15) hJ d_105_63 rfl ?_
    exact h0 c0
  · skip
    refine s_aload_n hJ d_105_46 rfl ?_
    refine s_getr hJ lf_5_18 rfl d_105_47 k0 r0 ?_
    refine s_iload hJ d_105_50 rfl ?_
    refine s_aload_n hJ d_105_52 rfl ?_
    refine s_geti hJ lf_5_77 rfl d_105_53 k1 ?_
    exact s_V2 hJ lm_5_80 d_105_56 (Nat.le_of_ble_eq_true rfl) k2 (h1 c0)
set_option maxRecDepth 4000 in
theorem b_105_59 {mc ms : Nat} {X : Option (Nat × (Nat → Int32))} {T : aj_Tt} {Q : aj_Q} {J : aj_J} (hJ : aj_Cl 5 c_105 (some .boolean) false mc ms X T Q J) {w0 : Option Value} {w1 : Option Value} {w2 : Option Value} {w3 : Option Value} {w4 : Option Value} {s0 : Int32} {Z : aj_Z} {I : aj_I} {G : aj_G} {C : Nat × Nat} (h0 : narrow .boolean (.int s0) = .int s0) (h1 : Q (some (.int s0)) Z I G) : J 59 [w0, w1, w2, w3, w4] [.int s0] Z I G C := by
  exact s_iret hJ d_105_59 rfl (h0) (h1)
-- ReelOfBoxes$Reader.tablesAgree()Z : method 106
theorem d_106_0 : decode c_106 0 = .ok (.iconst (0), 1) := by decide +kernel
theorem d_106_1 : decode c_106 1 = .ok (.istore_n 1, 1) := by decide +kernel
theorem d_106_2 : decode c_106 2 = .ok (.iload_n 1, 1) := by decide +kernel
theorem d_106_3 : decode c_106 3 = .ok (.aload_n 0, 1) := by decide +kernel
theorem d_106_4 : decode c_106 4 = .ok (.getfield 27, 3) := by decide +kernel
theorem d_106_7 : decode c_106 7 = .ok (.getfield 58, 3) := by decide +kernel
theorem d_106_10 : decode c_106 10 = .ok (.if_icmp .ge (40), 3) := by decide +kernel
theorem d_106_13 : decode c_106 13 = .ok (.aload_n 0, 1) := by decide +kernel
theorem d_106_14 : decode c_106 14 = .ok (.getfield 27, 3) := by decide +kernel
theorem d_106_17 : decode c_106 17 = .ok (.getfield 61, 3) := by decide +kernel
theorem d_106_20 : decode c_106 20 = .ok (.iload_n 1, 1) := by decide +kernel
theorem d_106_21 : decode c_106 21 = .ok (.aaload, 1) := by decide +kernel
theorem d_106_22 : decode c_106 22 = .ok (.astore_n 2, 1) := by decide +kernel
theorem d_106_23 : decode c_106 23 = .ok (.aload_n 2, 1) := by decide +kernel
theorem d_106_24 : decode c_106 24 = .ok (.invokevirtual 84, 3) := by decide +kernel
theorem d_106_27 : decode c_106 27 = .ok (.ifCond .ne (17), 3) := by decide +kernel
theorem d_106_30 : decode c_106 30 = .ok (.aload_n 0, 1) := by decide +kernel
theorem d_106_31 : decode c_106 31 = .ok (.getfield 18, 3) := by decide +kernel
theorem d_106_34 : decode c_106 34 = .ok (.bipush (6), 2) := by decide +kernel
theorem d_106_36 : decode c_106 36 = .ok (.aload_n 2, 1) := by decide +kernel
theorem d_106_37 : decode c_106 37 = .ok (.getfield 85, 3) := by decide +kernel
theorem d_106_40 : decode c_106 40 = .ok (.invokevirtual 80, 3) := by decide +kernel
theorem d_106_43 : decode c_106 43 = .ok (.ireturn, 1) := by decide +kernel
theorem d_106_44 : decode c_106 44 = .ok (.iinc 1 (1), 3) := by decide +kernel
theorem d_106_47 : decode c_106 47 = .ok (.goto (-45), 3) := by decide +kernel
theorem d_106_50 : decode c_106 50 = .ok (.iconst (1), 1) := by decide +kernel
theorem d_106_51 : decode c_106 51 = .ok (.ireturn, 1) := by decide +kernel
set_option maxRecDepth 4000 in
theorem b_106_0 {mc ms : Nat} {X : Option (Nat × (Nat → Int32))} {T : aj_Tt} {Q : aj_Q} {J : aj_J} (hJ : aj_Cl 5 c_106 (some .boolean) false mc ms X T Q J) {o0 : Nat} {Z : aj_Z} {I : aj_I} {G : aj_G} {C : Nat × Nat} (h0 : J 2 [some (.ref o0), some (.int 0), none] [] Z I G C) : J 0 [some (.ref o0), none, none] [] Z I G C := by
  refine s_iconst_0 hJ d_106_0 ?_
  refine s_istore_n hJ d_106_1 (Nat.le_of_ble_eq_true rfl) ?_
  exact h0
set_option maxRecDepth 4000 in
theorem b_106_2 {mc ms : Nat} {X : Option (Nat × (Nat → Int32))} {T : aj_Tt} {Q : aj_Q} {J : aj_J} (hJ : aj_Cl 5 c_106 (some .boolean) false mc ms X T Q J) {o0 : Nat} {x1 : Int32} {w2 : Option Value} {q0 : Nat} {q1 : Nat} {nk2 : Nat} {q2 : Nat} {Z : aj_Z} {I : aj_I} {G : aj_G} {C : Nat × Nat} (k0 : Z.2.1 o0 = some (.inl 5)) (r0 : Z.2.2 o0 2 = .ref q0) (k1 : Z.2.1 q0 = some (.inl 4)) (h0 : (I q0 10) ≤ x1 → Q (some (.int 1)) Z I G) (r1 : Z.2.2 q0 2 = .ref q1) (k2 : Z.2.1 q1 = some (.inr (4, nk2))) (h1 : ¬ (I q0 10) ≤ x1 → vp_in x1 nk2) (h2 : ¬ (I q0 10) ≤ x1 → Z.2.2 q1 (Int32.toNatClampNeg x1) = .ref q2) (k4 : Z.2.1 q2 = some (.inl 9)) (h3 : ¬ (I q0 10) ≤ x1 → T 0 0 144 [.ref q2] Z I G (fun r Z1 I1 G1 => J 27 [some (.ref o0), some (.int x1), some (.ref q2)] (r.toList ++ []) Z1 I1 G1 C)) : J 2 [some (.ref o0), some (.int x1), w2] [] Z I G C := by
  refine s_iload_n hJ d_106_2 rfl ?_
  refine s_aload_n hJ d_106_3 rfl ?_
  refine s_getr hJ lf_5_27 rfl d_106_4 k0 r0 ?_
  refine s_geti hJ lf_5_58 rfl d_106_7 k1 ?_
  refine s_icmp_ge (tgt := 50) hJ d_106_10 rfl (fun c0 => ?_) (fun c0 => ?_)
  · skip
    refine s_iconst_1 hJ d_106_50 ?_
    exact s_iret hJ d_106_51 rfl rfl (h0 c0)
  · skip
    refine s_aload_n hJ d_106_13 rfl ?_
    refine s_getr hJ lf_5_27 rfl d_106_14 k0 r0 ?_
    refine s_getr hJ lf_5_61 rfl d_106_17 k1 r1 ?_
    refine s_iload_n hJ d_106_20 rfl ?_
    refine s_aald hJ d_106_21 k2 tc_4 (h1 c0) (h2 c0) ?_
    refine s_astore_n hJ d_106_22 (Nat.le_of_ble_eq_true rfl) ?_
    refine s_aload_n hJ d_106_23 rfl ?_
    exact s_V0 hJ lm_5_84 d_106_24 (Nat.le_of_ble_eq_true rfl) k4 (h3 c0)
set_option maxRecDepth 4000 in
theorem b_106_27 {mc ms : Nat} {X : Option (Nat × (Nat → Int32))} {T : aj_Tt} {Q : aj_Q} {J : aj_J} (hJ : aj_Cl 5 c_106 (some .boolean) false mc ms X T Q J) {o0 : Nat} {x1 : Int32} {o2 : Nat} {s0 : Int32} {q0 : Nat} {Z : aj_Z} {I : aj_I} {G : aj_G} {C : Nat × Nat} (h0 : ¬ s0 = 0 → J 2 [some (.ref o0), some (.int (x1 + 1)), some (.ref o2)] [] Z I G C) (k0 : Z.2.1 o0 = some (.inl 5)) (r0 : Z.2.2 o0 1 = .ref q0) (k1 : Z.2.1 o2 = some (.inl 9)) (k2 : Z.2.1 q0 = some (.inl 3)) (h1 : s0 = 0 → T 0 0 90 [.ref q0, .int 6, .int (I o2 5)] Z I G (fun r Z1 I1 G1 => J 43 [some (.ref o0), some (.int x1), some (.ref o2)] (r.toList ++ []) Z1 I1 G1 C)) : J 27 [some (.ref o0), some (.int x1), some (.ref o2)] [.int s0] Z I G C := by
  refine s_if_ne (tgt := 44) hJ d_106_27 rfl (fun c0 => ?_) (fun c0 => ?_)
  · skip
    refine s_iinc (v := 1) hJ d_106_44 rfl (by decide) ?_
    refine s_goto (tgt := 2) hJ d_106_47 rfl ?_
    exact h0 c0
  · skip
    refine s_aload_n hJ d_106_30 rfl ?_
    refine s_getr hJ lf_5_18 rfl d_106_31 k0 r0 ?_
    refine s_bipush (v := 6) hJ d_106_34 (by decide) ?_
    refine s_aload_n hJ d_106_36 rfl ?_
    refine s_geti hJ lf_5_85 rfl d_106_37 k1 ?_
    exact s_V2 hJ lm_5_80 d_106_40 (Nat.le_of_ble_eq_true rfl) k2 (h1 c0)
set_option maxRecDepth 4000 in
theorem b_106_43 {mc ms : Nat} {X : Option (Nat × (Nat → Int32))} {T : aj_Tt} {Q : aj_Q} {J : aj_J} (hJ : aj_Cl 5 c_106 (some .boolean) false mc ms X T Q J) {w0 : Option Value} {w1 : Option Value} {w2 : Option Value} {s0 : Int32} {Z : aj_Z} {I : aj_I} {G : aj_G} {C : Nat × Nat} (h0 : narrow .boolean (.int s0) = .int s0) (h1 : Q (some (.int s0)) Z I G) : J 43 [w0, w1, w2] [.int s0] Z I G C := by
  exact s_iret hJ d_106_43 rfl (h0) (h1)
-- ReelOfBoxes$Reader.samplesAreInside()Z : method 107
theorem d_107_0 : decode c_107 0 = .ok (.iconst (0), 1) := by decide +kernel
theorem d_107_1 : decode c_107 1 = .ok (.istore_n 1, 1) := by decide +kernel
theorem d_107_2 : decode c_107 2 = .ok (.iload_n 1, 1) := by decide +kernel
theorem d_107_3 : decode c_107 3 = .ok (.aload_n 0, 1) := by decide +kernel
theorem d_107_4 : decode c_107 4 = .ok (.getfield 27, 3) := by decide +kernel
theorem d_107_7 : decode c_107 7 = .ok (.getfield 58, 3) := by decide +kernel
theorem d_107_10 : decode c_107 10 = .ok (.if_icmp .ge (63), 3) := by decide +kernel
theorem d_107_13 : decode c_107 13 = .ok (.aload_n 0, 1) := by decide +kernel
theorem d_107_14 : decode c_107 14 = .ok (.getfield 27, 3) := by decide +kernel
theorem d_107_17 : decode c_107 17 = .ok (.getfield 61, 3) := by decide +kernel
theorem d_107_20 : decode c_107 20 = .ok (.iload_n 1, 1) := by decide +kernel
theorem d_107_21 : decode c_107 21 = .ok (.aaload, 1) := by decide +kernel
theorem d_107_22 : decode c_107 22 = .ok (.astore_n 2, 1) := by decide +kernel
theorem d_107_23 : decode c_107 23 = .ok (.aload_n 2, 1) := by decide +kernel
theorem d_107_24 : decode c_107 24 = .ok (.invokevirtual 88, 3) := by decide +kernel
theorem d_107_27 : decode c_107 27 = .ok (.aload_n 2, 1) := by decide +kernel
theorem d_107_28 : decode c_107 28 = .ok (.aload_n 0, 1) := by decide +kernel
theorem d_107_29 : decode c_107 29 = .ok (.getfield 27, 3) := by decide +kernel
theorem d_107_32 : decode c_107 32 = .ok (.getfield 91, 3) := by decide +kernel
theorem d_107_35 : decode c_107 35 = .ok (.aload_n 0, 1) := by decide +kernel
theorem d_107_36 : decode c_107 36 = .ok (.getfield 27, 3) := by decide +kernel
theorem d_107_39 : decode c_107 39 = .ok (.getfield 94, 3) := by decide +kernel
theorem d_107_42 : decode c_107 42 = .ok (.invokevirtual 97, 3) := by decide +kernel
theorem d_107_45 : decode c_107 45 = .ok (.ifCond .ne (22), 3) := by decide +kernel
theorem d_107_48 : decode c_107 48 = .ok (.aload_n 0, 1) := by decide +kernel
theorem d_107_49 : decode c_107 49 = .ok (.getfield 18, 3) := by decide +kernel
theorem d_107_52 : decode c_107 52 = .ok (.bipush (7), 2) := by decide +kernel
theorem d_107_54 : decode c_107 54 = .ok (.aload_n 2, 1) := by decide +kernel
theorem d_107_55 : decode c_107 55 = .ok (.getfield 65, 3) := by decide +kernel
theorem d_107_58 : decode c_107 58 = .ok (.iconst (3), 1) := by decide +kernel
theorem d_107_59 : decode c_107 59 = .ok (.aaload, 1) := by decide +kernel
theorem d_107_60 : decode c_107 60 = .ok (.getfield 77, 3) := by decide +kernel
theorem d_107_63 : decode c_107 63 = .ok (.invokevirtual 80, 3) := by decide +kernel
theorem d_107_66 : decode c_107 66 = .ok (.ireturn, 1) := by decide +kernel
theorem d_107_67 : decode c_107 67 = .ok (.iinc 1 (1), 3) := by decide +kernel
theorem d_107_70 : decode c_107 70 = .ok (.goto (-68), 3) := by decide +kernel
theorem d_107_73 : decode c_107 73 = .ok (.iconst (1), 1) := by decide +kernel
theorem d_107_74 : decode c_107 74 = .ok (.ireturn, 1) := by decide +kernel
set_option maxRecDepth 4000 in
theorem b_107_0 {mc ms : Nat} {X : Option (Nat × (Nat → Int32))} {T : aj_Tt} {Q : aj_Q} {J : aj_J} (hJ : aj_Cl 5 c_107 (some .boolean) false mc ms X T Q J) {o0 : Nat} {Z : aj_Z} {I : aj_I} {G : aj_G} {C : Nat × Nat} (h0 : J 2 [some (.ref o0), some (.int 0), none] [] Z I G C) : J 0 [some (.ref o0), none, none] [] Z I G C := by
  refine s_iconst_0 hJ d_107_0 ?_
  refine s_istore_n hJ d_107_1 (Nat.le_of_ble_eq_true rfl) ?_
  exact h0
set_option maxRecDepth 4000 in
theorem b_107_2 {mc ms : Nat} {X : Option (Nat × (Nat → Int32))} {T : aj_Tt} {Q : aj_Q} {J : aj_J} (hJ : aj_Cl 5 c_107 (some .boolean) false mc ms X T Q J) {o0 : Nat} {x1 : Int32} {w2 : Option Value} {q0 : Nat} {q1 : Nat} {nk2 : Nat} {q2 : Nat} {Z : aj_Z} {I : aj_I} {G : aj_G} {C : Nat × Nat} (k0 : Z.2.1 o0 = some (.inl 5)) (r0 : Z.2.2 o0 2 = .ref q0) (k1 : Z.2.1 q0 = some (.inl 4)) (h0 : (I q0 10) ≤ x1 → Q (some (.int 1)) Z I G) (r1 : Z.2.2 q0 2 = .ref q1) (k2 : Z.2.1 q1 = some (.inr (4, nk2))) (h1 : ¬ (I q0 10) ≤ x1 → vp_in x1 nk2) (h2 : ¬ (I q0 10) ≤ x1 → Z.2.2 q1 (Int32.toNatClampNeg x1) = .ref q2) (k4 : Z.2.1 q2 = some (.inl 9)) (h3 : ¬ (I q0 10) ≤ x1 → T 0 0 150 [.ref q2] Z I G (fun r Z1 I1 G1 => J 27 [some (.ref o0), some (.int x1), some (.ref q2)] (r.toList ++ []) Z1 I1 G1 C)) : J 2 [some (.ref o0), some (.int x1), w2] [] Z I G C := by
  refine s_iload_n hJ d_107_2 rfl ?_
  refine s_aload_n hJ d_107_3 rfl ?_
  refine s_getr hJ lf_5_27 rfl d_107_4 k0 r0 ?_
  refine s_geti hJ lf_5_58 rfl d_107_7 k1 ?_
  refine s_icmp_ge (tgt := 73) hJ d_107_10 rfl (fun c0 => ?_) (fun c0 => ?_)
  · skip
    refine s_iconst_1 hJ d_107_73 ?_
    exact s_iret hJ d_107_74 rfl rfl (h0 c0)
  · skip
    refine s_aload_n hJ d_107_13 rfl ?_
    refine s_getr hJ lf_5_27 rfl d_107_14 k0 r0 ?_
    refine s_getr hJ lf_5_61 rfl d_107_17 k1 r1 ?_
    refine s_iload_n hJ d_107_20 rfl ?_
    refine s_aald hJ d_107_21 k2 tc_4 (h1 c0) (h2 c0) ?_
    refine s_astore_n hJ d_107_22 (Nat.le_of_ble_eq_true rfl) ?_
    refine s_aload_n hJ d_107_23 rfl ?_
    exact s_V0 hJ lm_5_88 d_107_24 (Nat.le_of_ble_eq_true rfl) k4 (h3 c0)
set_option maxRecDepth 4000 in
theorem b_107_27 {mc ms : Nat} {X : Option (Nat × (Nat → Int32))} {T : aj_Tt} {Q : aj_Q} {J : aj_J} (hJ : aj_Cl 5 c_107 (some .boolean) false mc ms X T Q J) {o0 : Nat} {x1 : Int32} {o2 : Nat} {q0 : Nat} {Z : aj_Z} {I : aj_I} {G : aj_G} {C : Nat × Nat} (k0 : Z.2.1 o0 = some (.inl 5)) (r0 : Z.2.2 o0 2 = .ref q0) (k1 : Z.2.1 q0 = some (.inl 4)) (k2 : Z.2.1 o2 = some (.inl 9)) (h0 : T 0 0 153 [.ref o2, .int (I q0 8), .int (I q0 9)] Z I G (fun r Z1 I1 G1 => J 45 [some (.ref o0), some (.int x1), some (.ref o2)] (r.toList ++ []) Z1 I1 G1 C)) : J 27 [some (.ref o0), some (.int x1), some (.ref o2)] [] Z I G C := by
  refine s_aload_n hJ d_107_27 rfl ?_
  refine s_aload_n hJ d_107_28 rfl ?_
  refine s_getr hJ lf_5_27 rfl d_107_29 k0 r0 ?_
  refine s_geti hJ lf_5_91 rfl d_107_32 k1 ?_
  refine s_aload_n hJ d_107_35 rfl ?_
  refine s_getr hJ lf_5_27 rfl d_107_36 k0 r0 ?_
  refine s_geti hJ lf_5_94 rfl d_107_39 k1 ?_
  exact s_V2 hJ lm_5_97 d_107_42 (Nat.le_of_ble_eq_true rfl) k2 (h0)
set_option maxRecDepth 4000 in
theorem b_107_45 {mc ms : Nat} {X : Option (Nat × (Nat → Int32))} {T : aj_Tt} {Q : aj_Q} {J : aj_J} (hJ : aj_Cl 5 c_107 (some .boolean) false mc ms X T Q J) {o0 : Nat} {x1 : Int32} {o2 : Nat} {s0 : Int32} {q0 : Nat} {q1 : Nat} {nk2 : Nat} {q2 : Nat} {Z : aj_Z} {I : aj_I} {G : aj_G} {C : Nat × Nat} (h0 : ¬ s0 = 0 → J 2 [some (.ref o0), some (.int (x1 + 1)), some (.ref o2)] [] Z I G C) (k0 : Z.2.1 o0 = some (.inl 5)) (r0 : Z.2.2 o0 1 = .ref q0) (k1 : Z.2.1 o2 = some (.inl 9)) (r1 : Z.2.2 o2 0 = .ref q1) (k2 : Z.2.1 q1 = some (.inr (6, nk2))) (h1 : s0 = 0 → vp_in 3 nk2) (h2 : s0 = 0 → Z.2.2 q1 (Int32.toNatClampNeg 3) = .ref q2) (k4 : Z.2.1 q2 = some (.inl 7)) (k5 : Z.2.1 q0 = some (.inl 3)) (h3 : s0 = 0 → T 0 0 90 [.ref q0, .int 7, .int (I q2 1)] Z I G (fun r Z1 I1 G1 => J 66 [some (.ref o0), some (.int x1), some (.ref o2)] (r.toList ++ []) Z1 I1 G1 C)) : J 45 [some (.ref o0), some (.int x1), some (.ref o2)] [.int s0] Z I G C := by
  refine s_if_ne (tgt := 67) hJ d_107_45 rfl (fun c0 => ?_) (fun c0 => ?_)
  · skip
    refine s_iinc (v := 1) hJ d_107_67 rfl (by decide) ?_
    refine s_goto (tgt := 2) hJ d_107_70 rfl ?_
    exact h0 c0
  · skip
    refine s_aload_n hJ d_107_48 rfl ?_
    refine s_getr hJ lf_5_18 rfl d_107_49 k0 r0 ?_
    refine s_bipush (v := 7) hJ d_107_52 (by decide) ?_
    refine s_aload_n hJ d_107_54 rfl ?_
    refine s_getr hJ lf_5_65 rfl d_107_55 k1 r1 ?_
    refine s_iconst_3 hJ d_107_58 ?_
    refine s_aald hJ d_107_59 k2 tc_6 (h1 c0) (h2 c0) ?_
    refine s_geti hJ lf_5_77 rfl d_107_60 k4 ?_
    exact s_V2 hJ lm_5_80 d_107_63 (Nat.le_of_ble_eq_true rfl) k5 (h3 c0)
set_option maxRecDepth 4000 in
theorem b_107_66 {mc ms : Nat} {X : Option (Nat × (Nat → Int32))} {T : aj_Tt} {Q : aj_Q} {J : aj_J} (hJ : aj_Cl 5 c_107 (some .boolean) false mc ms X T Q J) {w0 : Option Value} {w1 : Option Value} {w2 : Option Value} {s0 : Int32} {Z : aj_Z} {I : aj_I} {G : aj_G} {C : Nat × Nat} (h0 : narrow .boolean (.int s0) = .int s0) (h1 : Q (some (.int s0)) Z I G) : J 66 [w0, w1, w2] [.int s0] Z I G C := by
  exact s_iret hJ d_107_66 rfl (h0) (h1)
-- ReelOfBoxes$Reader.fillReel(LReelOfBoxes$Reel;)V : method 108
theorem d_108_0 : decode c_108 0 = .ok (.aload_n 1, 1) := by decide +kernel
theorem d_108_1 : decode c_108 1 = .ok (.invokevirtual 100, 3) := by decide +kernel
theorem d_108_4 : decode c_108 4 = .ok (.pop, 1) := by decide +kernel
theorem d_108_5 : decode c_108 5 = .ok (.iconst (0), 1) := by decide +kernel
theorem d_108_6 : decode c_108 6 = .ok (.istore_n 2, 1) := by decide +kernel
theorem d_108_7 : decode c_108 7 = .ok (.iload_n 2, 1) := by decide +kernel
theorem d_108_8 : decode c_108 8 = .ok (.aload_n 0, 1) := by decide +kernel
theorem d_108_9 : decode c_108 9 = .ok (.getfield 27, 3) := by decide +kernel
theorem d_108_12 : decode c_108 12 = .ok (.getfield 58, 3) := by decide +kernel
theorem d_108_15 : decode c_108 15 = .ok (.if_icmp .ge (36), 3) := by decide +kernel
theorem d_108_18 : decode c_108 18 = .ok (.aload_n 1, 1) := by decide +kernel
theorem d_108_19 : decode c_108 19 = .ok (.aload_n 1, 1) := by decide +kernel
theorem d_108_20 : decode c_108 20 = .ok (.invokevirtual 105, 3) := by decide +kernel
theorem d_108_23 : decode c_108 23 = .ok (.invokevirtual 108, 3) := by decide +kernel
theorem d_108_26 : decode c_108 26 = .ok (.astore_n 3, 1) := by decide +kernel
theorem d_108_27 : decode c_108 27 = .ok (.aload_n 3, 1) := by decide +kernel
theorem d_108_28 : decode c_108 28 = .ok (.ifnull (17), 3) := by decide +kernel
theorem d_108_31 : decode c_108 31 = .ok (.aload_n 0, 1) := by decide +kernel
theorem d_108_32 : decode c_108 32 = .ok (.aload_n 3, 1) := by decide +kernel
theorem d_108_33 : decode c_108 33 = .ok (.aload_n 0, 1) := by decide +kernel
theorem d_108_34 : decode c_108 34 = .ok (.getfield 27, 3) := by decide +kernel
theorem d_108_37 : decode c_108 37 = .ok (.getfield 61, 3) := by decide +kernel
theorem d_108_40 : decode c_108 40 = .ok (.iload_n 2, 1) := by decide +kernel
theorem d_108_41 : decode c_108 41 = .ok (.aaload, 1) := by decide +kernel
theorem d_108_42 : decode c_108 42 = .ok (.invokevirtual 112, 3) := by decide +kernel
theorem d_108_45 : decode c_108 45 = .ok (.iinc 2 (1), 3) := by decide +kernel
theorem d_108_48 : decode c_108 48 = .ok (.goto (-41), 3) := by decide +kernel
theorem d_108_51 : decode c_108 51 = .ok (.return_, 1) := by decide +kernel
set_option maxRecDepth 4000 in
theorem b_108_0 {mc ms : Nat} {X : Option (Nat × (Nat → Int32))} {T : aj_Tt} {Q : aj_Q} {J : aj_J} (hJ : aj_Cl 5 c_108 (none) false mc ms X T Q J) {o0 : Nat} {o1 : Nat} {Z : aj_Z} {I : aj_I} {G : aj_G} {C : Nat × Nat} (k0 : Z.2.1 o1 = some (.inl 6)) (h0 : T 0 0 114 [.ref o1] Z I G (fun r Z1 I1 G1 => J 4 [some (.ref o0), some (.ref o1), none, none] (r.toList ++ []) Z1 I1 G1 C)) : J 0 [some (.ref o0), some (.ref o1), none, none] [] Z I G C := by
  refine s_aload_n hJ d_108_0 rfl ?_
  exact s_V0 hJ lm_5_100 d_108_1 (Nat.le_of_ble_eq_true rfl) k0 (h0)
set_option maxRecDepth 4000 in
theorem b_108_4 {mc ms : Nat} {X : Option (Nat × (Nat → Int32))} {T : aj_Tt} {Q : aj_Q} {J : aj_J} (hJ : aj_Cl 5 c_108 (none) false mc ms X T Q J) {o0 : Nat} {o1 : Nat} {w2 : Option Value} {w3 : Option Value} {s0 : Int32} {Z : aj_Z} {I : aj_I} {G : aj_G} {C : Nat × Nat} (h0 : J 7 [some (.ref o0), some (.ref o1), some (.int 0), w3] [] Z I G C) : J 4 [some (.ref o0), some (.ref o1), w2, w3] [.int s0] Z I G C := by
  refine s_pop hJ d_108_4 rfl ?_
  refine s_iconst_0 hJ d_108_5 ?_
  refine s_istore_n hJ d_108_6 (Nat.le_of_ble_eq_true rfl) ?_
  exact h0
set_option maxRecDepth 4000 in
theorem b_108_7 {mc ms : Nat} {X : Option (Nat × (Nat → Int32))} {T : aj_Tt} {Q : aj_Q} {J : aj_J} (hJ : aj_Cl 5 c_108 (none) false mc ms X T Q J) {o0 : Nat} {o1 : Nat} {x2 : Int32} {w3 : Option Value} {q0 : Nat} {Z : aj_Z} {I : aj_I} {G : aj_G} {C : Nat × Nat} (k0 : Z.2.1 o0 = some (.inl 5)) (r0 : Z.2.2 o0 2 = .ref q0) (k1 : Z.2.1 q0 = some (.inl 4)) (h0 : (I q0 10) ≤ x2 → Q none Z I G) (k2 : Z.2.1 o1 = some (.inl 6)) (h1 : ¬ (I q0 10) ≤ x2 → T 0 0 113 [.ref o1] Z I G (fun r Z1 I1 G1 => J 23 [some (.ref o0), some (.ref o1), some (.int x2), w3] (r.toList ++ [.ref o1]) Z1 I1 G1 C)) : J 7 [some (.ref o0), some (.ref o1), some (.int x2), w3] [] Z I G C := by
  refine s_iload_n hJ d_108_7 rfl ?_
  refine s_aload_n hJ d_108_8 rfl ?_
  refine s_getr hJ lf_5_27 rfl d_108_9 k0 r0 ?_
  refine s_geti hJ lf_5_58 rfl d_108_12 k1 ?_
  refine s_icmp_ge (tgt := 51) hJ d_108_15 rfl (fun c0 => ?_) (fun c0 => ?_)
  · skip
    exact s_vret hJ d_108_51 rfl (h0 c0)
  · skip
    refine s_aload_n hJ d_108_18 rfl ?_
    refine s_aload_n hJ d_108_19 rfl ?_
    exact s_V0 hJ lm_5_105 d_108_20 (Nat.le_of_ble_eq_true rfl) k2 (h1 c0)
set_option maxRecDepth 4000 in
theorem b_108_23 {mc ms : Nat} {X : Option (Nat × (Nat → Int32))} {T : aj_Tt} {Q : aj_Q} {J : aj_J} (hJ : aj_Cl 5 c_108 (none) false mc ms X T Q J) {o0 : Nat} {o1 : Nat} {x2 : Int32} {w3 : Option Value} {s0 : Int32} {s1 : Nat} {Z : aj_Z} {I : aj_I} {G : aj_G} {C : Nat × Nat} (k0 : Z.2.1 s1 = some (.inl 6)) (h0 : T 0 0 112 [.ref s1, .int s0] Z I G (fun r Z1 I1 G1 => J 26 [some (.ref o0), some (.ref o1), some (.int x2), w3] (r.toList ++ []) Z1 I1 G1 C)) : J 23 [some (.ref o0), some (.ref o1), some (.int x2), w3] [.int s0, .ref s1] Z I G C := by
  exact s_V1 hJ lm_5_108 d_108_23 (Nat.le_of_ble_eq_true rfl) k0 (h0)
set_option maxRecDepth 4000 in
theorem b_108_26 {mc ms : Nat} {X : Option (Nat × (Nat → Int32))} {T : aj_Tt} {Q : aj_Q} {J : aj_J} (hJ : aj_Cl 5 c_108 (none) false mc ms X T Q J) {o0 : Nat} {o1 : Nat} {x2 : Int32} {w3 : Option Value} {s0 : Nat} {q0 : Nat} {q1 : Nat} {nk2 : Nat} {q2 : Nat} {Z : aj_Z} {I : aj_I} {G : aj_G} {C : Nat × Nat} (k0 : Z.2.1 o0 = some (.inl 5)) (r0 : Z.2.2 o0 2 = .ref q0) (k1 : Z.2.1 q0 = some (.inl 4)) (r1 : Z.2.2 q0 2 = .ref q1) (k2 : Z.2.1 q1 = some (.inr (4, nk2))) (h0 : vp_in x2 nk2) (h1 : Z.2.2 q1 (Int32.toNatClampNeg x2) = .ref q2) (h2 : T 0 0 109 [.ref o0, .ref s0, .ref q2] Z I G (fun r Z1 I1 G1 => J 45 [some (.ref o0), some (.ref o1), some (.int x2), some (.ref s0)] (r.toList ++ []) Z1 I1 G1 C)) : J 26 [some (.ref o0), some (.ref o1), some (.int x2), w3] [.ref s0] Z I G C := by
  refine s_astore_n hJ d_108_26 (Nat.le_of_ble_eq_true rfl) ?_
  refine s_aload_n hJ d_108_27 rfl ?_
  refine s_ifnull hJ d_108_28 ?_
  refine s_aload_n hJ d_108_31 rfl ?_
  refine s_aload_n hJ d_108_32 rfl ?_
  refine s_aload_n hJ d_108_33 rfl ?_
  refine s_getr hJ lf_5_27 rfl d_108_34 k0 r0 ?_
  refine s_getr hJ lf_5_61 rfl d_108_37 k1 r1 ?_
  refine s_iload_n hJ d_108_40 rfl ?_
  refine s_aald hJ d_108_41 k2 tc_4 (h0) (h1) ?_
  exact s_V2 hJ lm_5_112 d_108_42 (Nat.le_of_ble_eq_true rfl) k0 (h2)
set_option maxRecDepth 4000 in
theorem b_108_26N {mc ms : Nat} {X : Option (Nat × (Nat → Int32))} {T : aj_Tt} {Q : aj_Q} {J : aj_J} (hJ : aj_Cl 5 c_108 (none) false mc ms X T Q J) {o0 : Nat} {o1 : Nat} {x2 : Int32} {w3 : Option Value} {Z : aj_Z} {I : aj_I} {G : aj_G} {C : Nat × Nat} (h0 : J 45 [some (.ref o0), some (.ref o1), some (.int x2), some (.null)] [] Z I G C) : J 26 [some (.ref o0), some (.ref o1), some (.int x2), w3] [.null] Z I G C := by
  refine s_astore_nN hJ d_108_26 (Nat.le_of_ble_eq_true rfl) ?_
  refine s_aload_nN hJ d_108_27 rfl ?_
  refine s_ifnullN (tgt := 45) hJ d_108_28 rfl ?_
  exact h0
set_option maxRecDepth 4000 in
theorem b_108_45 {mc ms : Nat} {X : Option (Nat × (Nat → Int32))} {T : aj_Tt} {Q : aj_Q} {J : aj_J} (hJ : aj_Cl 5 c_108 (none) false mc ms X T Q J) {o0 : Nat} {o1 : Nat} {x2 : Int32} {w3 : Option Value} {Z : aj_Z} {I : aj_I} {G : aj_G} {C : Nat × Nat} (h0 : J 7 [some (.ref o0), some (.ref o1), some (.int (x2 + 1)), w3] [] Z I G C) : J 45 [some (.ref o0), some (.ref o1), some (.int x2), w3] [] Z I G C := by
  refine s_iinc (v := 1) hJ d_108_45 rfl (by decide) ?_
  refine s_goto (tgt := 7) hJ d_108_48 rfl ?_
  exact h0
-- ReelOfBoxes$Reader.fillTrack(LReelOfBoxes$Track;LReelOfBoxes$TrackBoxes;)V : method 109
theorem d_109_0 : decode c_109 0 = .ok (.iconst (0), 1) := by decide +kernel
theorem d_109_1 : decode c_109 1 = .ok (.istore_n 3, 1) := by decide +kernel
theorem d_109_2 : decode c_109 2 = .ok (.iload_n 3, 1) := by decide +kernel
theorem d_109_3 : decode c_109 3 = .ok (.aload_n 2, 1) := by decide +kernel
theorem d_109_4 : decode c_109 4 = .ok (.getfield 116, 3) := by decide +kernel
theorem d_109_7 : decode c_109 7 = .ok (.if_icmp .ge (45), 3) := by decide +kernel
theorem d_109_10 : decode c_109 10 = .ok (.aload_n 2, 1) := by decide +kernel
theorem d_109_11 : decode c_109 11 = .ok (.getfield 119, 3) := by decide +kernel
theorem d_109_14 : decode c_109 14 = .ok (.iload_n 3, 1) := by decide +kernel
theorem d_109_15 : decode c_109 15 = .ok (.iaload, 1) := by decide +kernel
theorem d_109_16 : decode c_109 16 = .ok (.istore 4, 2) := by decide +kernel
theorem d_109_18 : decode c_109 18 = .ok (.aload_n 1, 1) := by decide +kernel
theorem d_109_19 : decode c_109 19 = .ok (.aload_n 2, 1) := by decide +kernel
theorem d_109_20 : decode c_109 20 = .ok (.getfield 123, 3) := by decide +kernel
theorem d_109_23 : decode c_109 23 = .ok (.iload_n 3, 1) := by decide +kernel
theorem d_109_24 : decode c_109 24 = .ok (.iaload, 1) := by decide +kernel
theorem d_109_25 : decode c_109 25 = .ok (.aload_n 0, 1) := by decide +kernel
theorem d_109_26 : decode c_109 26 = .ok (.getfield 9, 3) := by decide +kernel
theorem d_109_29 : decode c_109 29 = .ok (.aload_n 2, 1) := by decide +kernel
theorem d_109_30 : decode c_109 30 = .ok (.getfield 126, 3) := by decide +kernel
theorem d_109_33 : decode c_109 33 = .ok (.iload_n 3, 1) := by decide +kernel
theorem d_109_34 : decode c_109 34 = .ok (.laload, 1) := by decide +kernel
theorem d_109_35 : decode c_109 35 = .ok (.iload 4, 2) := by decide +kernel
theorem d_109_37 : decode c_109 37 = .ok (.invokevirtual 130, 3) := by decide +kernel
theorem d_109_40 : decode c_109 40 = .ok (.iload 4, 2) := by decide +kernel
theorem d_109_42 : decode c_109 42 = .ok (.invokevirtual 136, 3) := by decide +kernel
theorem d_109_45 : decode c_109 45 = .ok (.pop, 1) := by decide +kernel
theorem d_109_46 : decode c_109 46 = .ok (.iinc 3 (1), 3) := by decide +kernel
theorem d_109_49 : decode c_109 49 = .ok (.goto (-47), 3) := by decide +kernel
theorem d_109_52 : decode c_109 52 = .ok (.return_, 1) := by decide +kernel
set_option maxRecDepth 4000 in
theorem b_109_0 {mc ms : Nat} {X : Option (Nat × (Nat → Int32))} {T : aj_Tt} {Q : aj_Q} {J : aj_J} (hJ : aj_Cl 5 c_109 (none) false mc ms X T Q J) {o0 : Nat} {o1 : Nat} {o2 : Nat} {Z : aj_Z} {I : aj_I} {G : aj_G} {C : Nat × Nat} (h0 : J 2 [some (.ref o0), some (.ref o1), some (.ref o2), some (.int 0), none] [] Z I G C) : J 0 [some (.ref o0), some (.ref o1), some (.ref o2), none, none] [] Z I G C := by
  refine s_iconst_0 hJ d_109_0 ?_
  refine s_istore_n hJ d_109_1 (Nat.le_of_ble_eq_true rfl) ?_
  exact h0
set_option maxRecDepth 4000 in
theorem b_109_2 {mc ms : Nat} {X : Option (Nat × (Nat → Int32))} {T : aj_Tt} {Q : aj_Q} {J : aj_J} (hJ : aj_Cl 5 c_109 (none) false mc ms X T Q J) {o0 : Nat} {o1 : Nat} {o2 : Nat} {x3 : Int32} {w4 : Option Value} {q0 : Nat} {nk1 : Nat} {q1 : Nat} {nk3 : Nat} {q2 : Nat} {q3 : Nat} {nk6 : Nat} {Z : aj_Z} {I : aj_I} {G : aj_G} {C : Nat × Nat} (k0 : Z.2.1 o2 = some (.inl 9)) (h0 : (I o2 4) ≤ x3 → Q none Z I G) (r0 : Z.2.2 o2 2 = .ref q0) (k1 : Z.2.1 q0 = some (.inr (0, nk1))) (h1 : ¬ (I o2 4) ≤ x3 → vp_in x3 nk1) (r1 : Z.2.2 o2 1 = .ref q1) (k3 : Z.2.1 q1 = some (.inr (0, nk3))) (h2 : ¬ (I o2 4) ≤ x3 → vp_in x3 nk3) (k5 : Z.2.1 o0 = some (.inl 5)) (r2 : Z.2.2 o0 0 = .ref q2) (r3 : Z.2.2 o2 3 = .ref q3) (k6 : Z.2.1 q3 = some (.inr (1, nk6))) (h3 : ¬ (I o2 4) ≤ x3 → vp_in x3 nk6) (k8 : Z.2.1 q2 = some (.inl 2)) (h4 : ¬ (I o2 4) ≤ x3 → T 0 0 87 [.ref q2, .long (G q3 (Int32.toNatClampNeg x3)), .int (I q0 (Int32.toNatClampNeg x3))] Z I G (fun r Z1 I1 G1 => J 40 [some (.ref o0), some (.ref o1), some (.ref o2), some (.int x3), some (.int (I q0 (Int32.toNatClampNeg x3)))] (r.toList ++ [.int (I q1 (Int32.toNatClampNeg x3)), .ref o1]) Z1 I1 G1 C)) : J 2 [some (.ref o0), some (.ref o1), some (.ref o2), some (.int x3), w4] [] Z I G C := by
  refine s_iload_n hJ d_109_2 rfl ?_
  refine s_aload_n hJ d_109_3 rfl ?_
  refine s_geti hJ lf_5_116 rfl d_109_4 k0 ?_
  refine s_icmp_ge (tgt := 52) hJ d_109_7 rfl (fun c0 => ?_) (fun c0 => ?_)
  · skip
    exact s_vret hJ d_109_52 rfl (h0 c0)
  · skip
    refine s_aload_n hJ d_109_10 rfl ?_
    refine s_getr hJ lf_5_119 rfl d_109_11 k0 r0 ?_
    refine s_iload_n hJ d_109_14 rfl ?_
    refine s_iald hJ d_109_15 k1 (h1 c0) ?_
    refine s_istore hJ d_109_16 (Nat.le_of_ble_eq_true rfl) ?_
    refine s_aload_n hJ d_109_18 rfl ?_
    refine s_aload_n hJ d_109_19 rfl ?_
    refine s_getr hJ lf_5_123 rfl d_109_20 k0 r1 ?_
    refine s_iload_n hJ d_109_23 rfl ?_
    refine s_iald hJ d_109_24 k3 (h2 c0) ?_
    refine s_aload_n hJ d_109_25 rfl ?_
    refine s_getr hJ lf_5_9 rfl d_109_26 k5 r2 ?_
    refine s_aload_n hJ d_109_29 rfl ?_
    refine s_getr hJ lf_5_126 rfl d_109_30 k0 r3 ?_
    refine s_iload_n hJ d_109_33 rfl ?_
    refine s_lald hJ d_109_34 k6 (h3 c0) ?_
    refine s_iload hJ d_109_35 rfl ?_
    exact s_V2 hJ lm_5_130 d_109_37 (Nat.le_of_ble_eq_true rfl) k8 (h4 c0)
set_option maxRecDepth 4000 in
theorem b_109_40 {mc ms : Nat} {X : Option (Nat × (Nat → Int32))} {T : aj_Tt} {Q : aj_Q} {J : aj_J} (hJ : aj_Cl 5 c_109 (none) false mc ms X T Q J) {o0 : Nat} {o1 : Nat} {o2 : Nat} {x3 : Int32} {x4 : Int32} {s0 : Int64} {s1 : Int32} {s2 : Nat} {Z : aj_Z} {I : aj_I} {G : aj_G} {C : Nat × Nat} (k0 : Z.2.1 s2 = some (.inl 8)) (h0 : T 0 0 132 [.ref s2, .int s1, .long s0, .int x4] Z I G (fun r Z1 I1 G1 => J 45 [some (.ref o0), some (.ref o1), some (.ref o2), some (.int x3), some (.int x4)] (r.toList ++ []) Z1 I1 G1 C)) : J 40 [some (.ref o0), some (.ref o1), some (.ref o2), some (.int x3), some (.int x4)] [.long s0, .int s1, .ref s2] Z I G C := by
  refine s_iload hJ d_109_40 rfl ?_
  exact s_V3 hJ lm_5_136 d_109_42 (Nat.le_of_ble_eq_true rfl) k0 (h0)
set_option maxRecDepth 4000 in
theorem b_109_45 {mc ms : Nat} {X : Option (Nat × (Nat → Int32))} {T : aj_Tt} {Q : aj_Q} {J : aj_J} (hJ : aj_Cl 5 c_109 (none) false mc ms X T Q J) {o0 : Nat} {o1 : Nat} {o2 : Nat} {x3 : Int32} {w4 : Option Value} {s0 : Int32} {Z : aj_Z} {I : aj_I} {G : aj_G} {C : Nat × Nat} (h0 : J 2 [some (.ref o0), some (.ref o1), some (.ref o2), some (.int (x3 + 1)), w4] [] Z I G C) : J 45 [some (.ref o0), some (.ref o1), some (.ref o2), some (.int x3), w4] [.int s0] Z I G C := by
  refine s_pop hJ d_109_45 rfl ?_
  refine s_iinc (v := 1) hJ d_109_46 rfl (by decide) ?_
  refine s_goto (tgt := 2) hJ d_109_49 rfl ?_
  exact h0
-- ReelOfBoxes$Writer.<init>(LReelOfBoxes$Reel;LReelOfBoxes$ByteRow;)V : method 154
theorem d_154_0 : decode c_154 0 = .ok (.aload_n 0, 1) := by decide +kernel
theorem d_154_1 : decode c_154 1 = .ok (.invokespecial 3, 3) := by decide +kernel
theorem d_154_4 : decode c_154 4 = .ok (.aload_n 0, 1) := by decide +kernel
theorem d_154_5 : decode c_154 5 = .ok (.bipush (48), 2) := by decide +kernel
theorem d_154_7 : decode c_154 7 = .ok (.newarray .int, 2) := by decide +kernel
theorem d_154_9 : decode c_154 9 = .ok (.putfield 9, 3) := by decide +kernel
theorem d_154_12 : decode c_154 12 = .ok (.aload_n 0, 1) := by decide +kernel
theorem d_154_13 : decode c_154 13 = .ok (.iconst (1), 1) := by decide +kernel
theorem d_154_14 : decode c_154 14 = .ok (.putfield 15, 3) := by decide +kernel
theorem d_154_17 : decode c_154 17 = .ok (.aload_n 0, 1) := by decide +kernel
theorem d_154_18 : decode c_154 18 = .ok (.iconst (0), 1) := by decide +kernel
theorem d_154_19 : decode c_154 19 = .ok (.putfield 19, 3) := by decide +kernel
theorem d_154_22 : decode c_154 22 = .ok (.aload_n 0, 1) := by decide +kernel
theorem d_154_23 : decode c_154 23 = .ok (.iconst (0), 1) := by decide +kernel
theorem d_154_24 : decode c_154 24 = .ok (.putfield 23, 3) := by decide +kernel
theorem d_154_27 : decode c_154 27 = .ok (.aload_n 0, 1) := by decide +kernel
theorem d_154_28 : decode c_154 28 = .ok (.aload_n 1, 1) := by decide +kernel
theorem d_154_29 : decode c_154 29 = .ok (.putfield 26, 3) := by decide +kernel
theorem d_154_32 : decode c_154 32 = .ok (.aload_n 0, 1) := by decide +kernel
theorem d_154_33 : decode c_154 33 = .ok (.aload_n 2, 1) := by decide +kernel
theorem d_154_34 : decode c_154 34 = .ok (.putfield 30, 3) := by decide +kernel
theorem d_154_37 : decode c_154 37 = .ok (.return_, 1) := by decide +kernel
-- ReelOfBoxes$Writer.writeReel(II)I : method 155
theorem d_155_0 : decode c_155 0 = .ok (.aload_n 0, 1) := by decide +kernel
theorem d_155_1 : decode c_155 1 = .ok (.iconst (1), 1) := by decide +kernel
theorem d_155_2 : decode c_155 2 = .ok (.iload_n 1, 1) := by decide +kernel
theorem d_155_3 : decode c_155 3 = .ok (.invokestatic 34, 3) := by decide +kernel
theorem d_155_6 : decode c_155 6 = .ok (.putfield 15, 3) := by decide +kernel
theorem d_155_9 : decode c_155 9 = .ok (.aload_n 0, 1) := by decide +kernel
theorem d_155_10 : decode c_155 10 = .ok (.iload_n 2, 1) := by decide +kernel
theorem d_155_11 : decode c_155 11 = .ok (.iconst (1), 1) := by decide +kernel
theorem d_155_12 : decode c_155 12 = .ok (.iand, 1) := by decide +kernel
theorem d_155_13 : decode c_155 13 = .ok (.ifCond .eq (7), 3) := by decide +kernel
theorem d_155_16 : decode c_155 16 = .ok (.iconst (1), 1) := by decide +kernel
theorem d_155_17 : decode c_155 17 = .ok (.goto (4), 3) := by decide +kernel
theorem d_155_20 : decode c_155 20 = .ok (.iconst (0), 1) := by decide +kernel
theorem d_155_21 : decode c_155 21 = .ok (.putfield 19, 3) := by decide +kernel
theorem d_155_24 : decode c_155 24 = .ok (.aload_n 0, 1) := by decide +kernel
theorem d_155_25 : decode c_155 25 = .ok (.iload_n 2, 1) := by decide +kernel
theorem d_155_26 : decode c_155 26 = .ok (.iconst (2), 1) := by decide +kernel
theorem d_155_27 : decode c_155 27 = .ok (.iand, 1) := by decide +kernel
theorem d_155_28 : decode c_155 28 = .ok (.ifCond .eq (7), 3) := by decide +kernel
theorem d_155_31 : decode c_155 31 = .ok (.iconst (1), 1) := by decide +kernel
theorem d_155_32 : decode c_155 32 = .ok (.goto (4), 3) := by decide +kernel
theorem d_155_35 : decode c_155 35 = .ok (.iconst (0), 1) := by decide +kernel
theorem d_155_36 : decode c_155 36 = .ok (.putfield 23, 3) := by decide +kernel
theorem d_155_39 : decode c_155 39 = .ok (.aload_n 0, 1) := by decide +kernel
theorem d_155_40 : decode c_155 40 = .ok (.invokevirtual 40, 3) := by decide +kernel
theorem d_155_43 : decode c_155 43 = .ok (.istore_n 3, 1) := by decide +kernel
theorem d_155_44 : decode c_155 44 = .ok (.aload_n 0, 1) := by decide +kernel
theorem d_155_45 : decode c_155 45 = .ok (.iload_n 3, 1) := by decide +kernel
theorem d_155_46 : decode c_155 46 = .ok (.aload_n 0, 1) := by decide +kernel
theorem d_155_47 : decode c_155 47 = .ok (.getfield 23, 3) := by decide +kernel
theorem d_155_50 : decode c_155 50 = .ok (.ifCond .eq (8), 3) := by decide +kernel
theorem d_155_53 : decode c_155 53 = .ok (.bipush (16), 2) := by decide +kernel
theorem d_155_55 : decode c_155 55 = .ok (.goto (5), 3) := by decide +kernel
theorem d_155_58 : decode c_155 58 = .ok (.bipush (8), 2) := by decide +kernel
theorem d_155_60 : decode c_155 60 = .ok (.iadd, 1) := by decide +kernel
theorem d_155_61 : decode c_155 61 = .ok (.invokevirtual 44, 3) := by decide +kernel
theorem d_155_64 : decode c_155 64 = .ok (.istore 4, 2) := by decide +kernel
theorem d_155_66 : decode c_155 66 = .ok (.iload 4, 2) := by decide +kernel
theorem d_155_68 : decode c_155 68 = .ok (.sipush (1200), 3) := by decide +kernel
theorem d_155_71 : decode c_155 71 = .ok (.if_icmp .le (5), 3) := by decide +kernel
theorem d_155_74 : decode c_155 74 = .ok (.iconst (0), 1) := by decide +kernel
theorem d_155_75 : decode c_155 75 = .ok (.ireturn, 1) := by decide +kernel
theorem d_155_76 : decode c_155 76 = .ok (.aload_n 0, 1) := by decide +kernel
theorem d_155_77 : decode c_155 77 = .ok (.getfield 30, 3) := by decide +kernel
theorem d_155_80 : decode c_155 80 = .ok (.iconst (0), 1) := by decide +kernel
theorem d_155_81 : decode c_155 81 = .ok (.invokevirtual 48, 3) := by decide +kernel
theorem d_155_84 : decode c_155 84 = .ok (.pop, 1) := by decide +kernel
theorem d_155_85 : decode c_155 85 = .ok (.aload_n 0, 1) := by decide +kernel
theorem d_155_86 : decode c_155 86 = .ok (.iload_n 3, 1) := by decide +kernel
theorem d_155_87 : decode c_155 87 = .ok (.invokevirtual 54, 3) := by decide +kernel
theorem d_155_90 : decode c_155 90 = .ok (.aload_n 0, 1) := by decide +kernel
theorem d_155_91 : decode c_155 91 = .ok (.iload 4, 2) := by decide +kernel
theorem d_155_93 : decode c_155 93 = .ok (.iload_n 3, 1) := by decide +kernel
theorem d_155_94 : decode c_155 94 = .ok (.isub, 1) := by decide +kernel
theorem d_155_95 : decode c_155 95 = .ok (.invokevirtual 58, 3) := by decide +kernel
theorem d_155_98 : decode c_155 98 = .ok (.aload_n 0, 1) := by decide +kernel
theorem d_155_99 : decode c_155 99 = .ok (.getfield 30, 3) := by decide +kernel
theorem d_155_102 : decode c_155 102 = .ok (.invokevirtual 61, 3) := by decide +kernel
theorem d_155_105 : decode c_155 105 = .ok (.ireturn, 1) := by decide +kernel
set_option maxRecDepth 4000 in
theorem b_155_0 {mc ms : Nat} {X : Option (Nat × (Nat → Int32))} {T : aj_Tt} {Q : aj_Q} {J : aj_J} (hJ : aj_Cl 10 c_155 (some .int) false mc ms X T Q J) {o0 : Nat} {x1 : Int32} {x2 : Int32} {Z : aj_Z} {I : aj_I} {G : aj_G} {C : Nat × Nat} (k0 : Z.2.1 o0 = some (.inl 10)) (h0 : (x2 &&& 1) = 0 → J 21 [some (.ref o0), some (.int x1), some (.int x2), none, none] [.int 0, .ref o0] Z (aj_u2 I o0 3 (if 1 < x1 then x1 else 1)) G C) (h1 : ¬ (x2 &&& 1) = 0 → J 21 [some (.ref o0), some (.int x1), some (.int x2), none, none] [.int 1, .ref o0] Z (aj_u2 I o0 3 (if 1 < x1 then x1 else 1)) G C) : J 0 [some (.ref o0), some (.int x1), some (.int x2), none, none] [] Z I G C := by
  refine s_aload_n hJ d_155_0 rfl ?_
  refine s_iconst_1 hJ d_155_1 ?_
  refine s_iload_n hJ d_155_2 rfl ?_
  refine s_mmax hJ lx_10_34 d_155_3 (Nat.le_of_ble_eq_true rfl) ?_
  refine s_puti hJ lf_10_15 rfl d_155_6 k0 ?_
  refine s_aload_n hJ d_155_9 rfl ?_
  refine s_iload_n hJ d_155_10 rfl ?_
  refine s_iconst_1 hJ d_155_11 ?_
  refine s_iand hJ d_155_12 ?_
  refine s_if_eq (tgt := 20) hJ d_155_13 rfl (fun c0 => ?_) (fun c0 => ?_)
  · skip
    refine s_iconst_0 hJ d_155_20 ?_
    exact h0 c0
  · skip
    refine s_iconst_1 hJ d_155_16 ?_
    refine s_goto (tgt := 21) hJ d_155_17 rfl ?_
    exact h1 c0
set_option maxRecDepth 4000 in
theorem b_155_21 {mc ms : Nat} {X : Option (Nat × (Nat → Int32))} {T : aj_Tt} {Q : aj_Q} {J : aj_J} (hJ : aj_Cl 10 c_155 (some .int) false mc ms X T Q J) {o0 : Nat} {w1 : Option Value} {x2 : Int32} {w3 : Option Value} {w4 : Option Value} {s0 : Int32} {s1 : Nat} {Z : aj_Z} {I : aj_I} {G : aj_G} {C : Nat × Nat} (k0 : Z.2.1 s1 = some (.inl 10)) (h0 : s0 = 0 ∨ s0 = 1) (k1 : Z.2.1 o0 = some (.inl 10)) (h1 : (x2 &&& 2) = 0 → T 0 0 166 [.ref o0] Z (aj_u2 (aj_u2 I s1 4 s0) o0 5 0) G (fun r Z1 I1 G1 => J 43 [some (.ref o0), w1, some (.int x2), w3, w4] (r.toList ++ []) Z1 I1 G1 C)) (h2 : ¬ (x2 &&& 2) = 0 → T 0 0 166 [.ref o0] Z (aj_u2 (aj_u2 I s1 4 s0) o0 5 1) G (fun r Z1 I1 G1 => J 43 [some (.ref o0), w1, some (.int x2), w3, w4] (r.toList ++ []) Z1 I1 G1 C)) : J 21 [some (.ref o0), w1, some (.int x2), w3, w4] [.int s0, .ref s1] Z I G C := by
  refine s_putz hJ lf_10_19 rfl (h0) d_155_21 k0 ?_
  refine s_aload_n hJ d_155_24 rfl ?_
  refine s_iload_n hJ d_155_25 rfl ?_
  refine s_iconst_2 hJ d_155_26 ?_
  refine s_iand hJ d_155_27 ?_
  refine s_if_eq (tgt := 35) hJ d_155_28 rfl (fun c0 => ?_) (fun c0 => ?_)
  · skip
    refine s_iconst_0 hJ d_155_35 ?_
    refine s_putz hJ lf_10_23 rfl (by decide) d_155_36 k1 ?_
    refine s_aload_n hJ d_155_39 rfl ?_
    exact s_V0 hJ lm_10_40 d_155_40 (Nat.le_of_ble_eq_true rfl) k1 (h1 c0)
  · skip
    refine s_iconst_1 hJ d_155_31 ?_
    refine s_goto (tgt := 36) hJ d_155_32 rfl ?_
    refine s_putz hJ lf_10_23 rfl (by decide) d_155_36 k1 ?_
    refine s_aload_n hJ d_155_39 rfl ?_
    exact s_V0 hJ lm_10_40 d_155_40 (Nat.le_of_ble_eq_true rfl) k1 (h2 c0)
set_option maxRecDepth 4000 in
theorem b_155_43 {mc ms : Nat} {X : Option (Nat × (Nat → Int32))} {T : aj_Tt} {Q : aj_Q} {J : aj_J} (hJ : aj_Cl 10 c_155 (some .int) false mc ms X T Q J) {o0 : Nat} {w1 : Option Value} {w2 : Option Value} {w3 : Option Value} {w4 : Option Value} {s0 : Int32} {Z : aj_Z} {I : aj_I} {G : aj_G} {C : Nat × Nat} (k0 : Z.2.1 o0 = some (.inl 10)) (h0 : (I o0 5) = 0 → T 0 0 167 [.ref o0, .int (s0 + 8)] Z I G (fun r Z1 I1 G1 => J 64 [some (.ref o0), w1, (aj_clr w2), some (.int s0), w4] (r.toList ++ []) Z1 I1 G1 C)) (h1 : ¬ (I o0 5) = 0 → T 0 0 167 [.ref o0, .int (s0 + 16)] Z I G (fun r Z1 I1 G1 => J 64 [some (.ref o0), w1, (aj_clr w2), some (.int s0), w4] (r.toList ++ []) Z1 I1 G1 C)) : J 43 [some (.ref o0), w1, w2, w3, w4] [.int s0] Z I G C := by
  refine s_istore_n hJ d_155_43 (Nat.le_of_ble_eq_true rfl) ?_
  refine s_aload_n hJ d_155_44 rfl ?_
  refine s_iload_n hJ d_155_45 rfl ?_
  refine s_aload_n hJ d_155_46 rfl ?_
  refine s_geti hJ lf_10_23 rfl d_155_47 k0 ?_
  refine s_if_eq (tgt := 58) hJ d_155_50 rfl (fun c0 => ?_) (fun c0 => ?_)
  · skip
    refine s_bipush (v := 8) hJ d_155_58 (by decide) ?_
    refine s_iadd hJ d_155_60 ?_
    exact s_V1 hJ lm_10_44 d_155_61 (Nat.le_of_ble_eq_true rfl) k0 (h0 c0)
  · skip
    refine s_bipush (v := 16) hJ d_155_53 (by decide) ?_
    refine s_goto (tgt := 60) hJ d_155_55 rfl ?_
    refine s_iadd hJ d_155_60 ?_
    exact s_V1 hJ lm_10_44 d_155_61 (Nat.le_of_ble_eq_true rfl) k0 (h1 c0)
set_option maxRecDepth 4000 in
theorem b_155_64 {mc ms : Nat} {X : Option (Nat × (Nat → Int32))} {T : aj_Tt} {Q : aj_Q} {J : aj_J} (hJ : aj_Cl 10 c_155 (some .int) false mc ms X T Q J) {o0 : Nat} {w1 : Option Value} {w2 : Option Value} {x3 : Int32} {w4 : Option Value} {s0 : Int32} {q0 : Nat} {Z : aj_Z} {I : aj_I} {G : aj_G} {C : Nat × Nat} (k0 : Z.2.1 o0 = some (.inl 10)) (r0 : Z.2.2 o0 1 = .ref q0) (k1 : Z.2.1 q0 = some (.inl 2)) (h0 : s0 ≤ 1200 → T 0 0 84 [.ref q0, .int 0] Z I G (fun r Z1 I1 G1 => J 84 [some (.ref o0), w1, w2, some (.int x3), some (.int s0)] (r.toList ++ []) Z1 I1 G1 C)) (h1 : ¬ s0 ≤ 1200 → Q (some (.int 0)) Z I G) : J 64 [some (.ref o0), w1, w2, some (.int x3), w4] [.int s0] Z I G C := by
  refine s_istore hJ d_155_64 (Nat.le_of_ble_eq_true rfl) ?_
  refine s_iload hJ d_155_66 rfl ?_
  refine s_sipush (v := 1200) hJ d_155_68 (by decide) ?_
  refine s_icmp_le (tgt := 76) hJ d_155_71 rfl (fun c0 => ?_) (fun c0 => ?_)
  · skip
    refine s_aload_n hJ d_155_76 rfl ?_
    refine s_getr hJ lf_10_30 rfl d_155_77 k0 r0 ?_
    refine s_iconst_0 hJ d_155_80 ?_
    exact s_V1 hJ lm_10_48 d_155_81 (Nat.le_of_ble_eq_true rfl) k1 (h0 c0)
  · skip
    refine s_iconst_0 hJ d_155_74 ?_
    exact s_iret hJ d_155_75 rfl rfl (h1 c0)
set_option maxRecDepth 4000 in
theorem b_155_84 {mc ms : Nat} {X : Option (Nat × (Nat → Int32))} {T : aj_Tt} {Q : aj_Q} {J : aj_J} (hJ : aj_Cl 10 c_155 (some .int) false mc ms X T Q J) {o0 : Nat} {w1 : Option Value} {w2 : Option Value} {x3 : Int32} {x4 : Int32} {s0 : Int32} {Z : aj_Z} {I : aj_I} {G : aj_G} {C : Nat × Nat} (k0 : Z.2.1 o0 = some (.inl 10)) (h0 : T 0 0 172 [.ref o0, .int x3] Z I G (fun r Z1 I1 G1 => J 90 [some (.ref o0), w1, w2, some (.int x3), some (.int x4)] (r.toList ++ []) Z1 I1 G1 C)) : J 84 [some (.ref o0), w1, w2, some (.int x3), some (.int x4)] [.int s0] Z I G C := by
  refine s_pop hJ d_155_84 rfl ?_
  refine s_aload_n hJ d_155_85 rfl ?_
  refine s_iload_n hJ d_155_86 rfl ?_
  exact s_V1 hJ lm_10_54 d_155_87 (Nat.le_of_ble_eq_true rfl) k0 (h0)
set_option maxRecDepth 4000 in
theorem b_155_90 {mc ms : Nat} {X : Option (Nat × (Nat → Int32))} {T : aj_Tt} {Q : aj_Q} {J : aj_J} (hJ : aj_Cl 10 c_155 (some .int) false mc ms X T Q J) {o0 : Nat} {w1 : Option Value} {w2 : Option Value} {x3 : Int32} {x4 : Int32} {Z : aj_Z} {I : aj_I} {G : aj_G} {C : Nat × Nat} (k0 : Z.2.1 o0 = some (.inl 10)) (h0 : T 0 0 178 [.ref o0, .int (x4 - x3)] Z I G (fun r Z1 I1 G1 => J 98 [some (.ref o0), w1, w2, some (.int x3), some (.int x4)] (r.toList ++ []) Z1 I1 G1 C)) : J 90 [some (.ref o0), w1, w2, some (.int x3), some (.int x4)] [] Z I G C := by
  refine s_aload_n hJ d_155_90 rfl ?_
  refine s_iload hJ d_155_91 rfl ?_
  refine s_iload_n hJ d_155_93 rfl ?_
  refine s_isub hJ d_155_94 ?_
  exact s_V1 hJ lm_10_58 d_155_95 (Nat.le_of_ble_eq_true rfl) k0 (h0)
set_option maxRecDepth 4000 in
theorem b_155_98 {mc ms : Nat} {X : Option (Nat × (Nat → Int32))} {T : aj_Tt} {Q : aj_Q} {J : aj_J} (hJ : aj_Cl 10 c_155 (some .int) false mc ms X T Q J) {o0 : Nat} {w1 : Option Value} {w2 : Option Value} {w3 : Option Value} {w4 : Option Value} {q0 : Nat} {Z : aj_Z} {I : aj_I} {G : aj_G} {C : Nat × Nat} (k0 : Z.2.1 o0 = some (.inl 10)) (r0 : Z.2.2 o0 1 = .ref q0) (k1 : Z.2.1 q0 = some (.inl 2)) (h0 : T 0 0 81 [.ref q0] Z I G (fun r Z1 I1 G1 => J 105 [some (.ref o0), w1, w2, w3, w4] (r.toList ++ []) Z1 I1 G1 C)) : J 98 [some (.ref o0), w1, w2, w3, w4] [] Z I G C := by
  refine s_aload_n hJ d_155_98 rfl ?_
  refine s_getr hJ lf_10_30 rfl d_155_99 k0 r0 ?_
  exact s_V0 hJ lm_10_61 d_155_102 (Nat.le_of_ble_eq_true rfl) k1 (h0)
set_option maxRecDepth 4000 in
theorem b_155_105 {mc ms : Nat} {X : Option (Nat × (Nat → Int32))} {T : aj_Tt} {Q : aj_Q} {J : aj_J} (hJ : aj_Cl 10 c_155 (some .int) false mc ms X T Q J) {w0 : Option Value} {w1 : Option Value} {w2 : Option Value} {w3 : Option Value} {w4 : Option Value} {s0 : Int32} {Z : aj_Z} {I : aj_I} {G : aj_G} {C : Nat × Nat} (h0 : Q (some (.int s0)) Z I G) : J 105 [w0, w1, w2, w3, w4] [.int s0] Z I G C := by
  exact s_iret hJ d_155_105 rfl rfl (h0)
-- ReelOfBoxes$Writer.chunkCount(LReelOfBoxes$Track;)I : method 156
theorem d_156_0 : decode c_156 0 = .ok (.aload_n 1, 1) := by decide +kernel
theorem d_156_1 : decode c_156 1 = .ok (.invokevirtual 64, 3) := by decide +kernel
theorem d_156_4 : decode c_156 4 = .ok (.aload_n 0, 1) := by decide +kernel
theorem d_156_5 : decode c_156 5 = .ok (.getfield 15, 3) := by decide +kernel
theorem d_156_8 : decode c_156 8 = .ok (.iadd, 1) := by decide +kernel
theorem d_156_9 : decode c_156 9 = .ok (.iconst (1), 1) := by decide +kernel
theorem d_156_10 : decode c_156 10 = .ok (.isub, 1) := by decide +kernel
theorem d_156_11 : decode c_156 11 = .ok (.aload_n 0, 1) := by decide +kernel
theorem d_156_12 : decode c_156 12 = .ok (.getfield 15, 3) := by decide +kernel
theorem d_156_15 : decode c_156 15 = .ok (.idiv, 1) := by decide +kernel
theorem d_156_16 : decode c_156 16 = .ok (.ireturn, 1) := by decide +kernel
set_option maxRecDepth 4000 in
theorem b_156_0 {mc ms : Nat} {X : Option (Nat × (Nat → Int32))} {T : aj_Tt} {Q : aj_Q} {J : aj_J} (hJ : aj_Cl 10 c_156 (some .int) false mc ms X T Q J) {o0 : Nat} {o1 : Nat} {Z : aj_Z} {I : aj_I} {G : aj_G} {C : Nat × Nat} (k0 : Z.2.1 o1 = some (.inl 8)) (h0 : T 0 0 130 [.ref o1] Z I G (fun r Z1 I1 G1 => J 4 [some (.ref o0), some (.ref o1)] (r.toList ++ []) Z1 I1 G1 C)) : J 0 [some (.ref o0), some (.ref o1)] [] Z I G C := by
  refine s_aload_n hJ d_156_0 rfl ?_
  exact s_V0 hJ lm_10_64 d_156_1 (Nat.le_of_ble_eq_true rfl) k0 (h0)
set_option maxRecDepth 4000 in
theorem b_156_4 {mc ms : Nat} {X : Option (Nat × (Nat → Int32))} {T : aj_Tt} {Q : aj_Q} {J : aj_J} (hJ : aj_Cl 10 c_156 (some .int) false mc ms X T Q J) {o0 : Nat} {w1 : Option Value} {s0 : Int32} {Z : aj_Z} {I : aj_I} {G : aj_G} {C : Nat × Nat} (k0 : Z.2.1 o0 = some (.inl 10)) (h0 : ¬ (I o0 3) = 0) (h1 : Q (some (.int (((s0 + (I o0 3)) - 1) / (I o0 3)))) Z I G) : J 4 [some (.ref o0), w1] [.int s0] Z I G C := by
  refine s_aload_n hJ d_156_4 rfl ?_
  refine s_geti hJ lf_10_15 rfl d_156_5 k0 ?_
  refine s_iadd hJ d_156_8 ?_
  refine s_iconst_1 hJ d_156_9 ?_
  refine s_isub hJ d_156_10 ?_
  refine s_aload_n hJ d_156_11 rfl ?_
  refine s_geti hJ lf_10_15 rfl d_156_12 k0 ?_
  refine s_idiv hJ d_156_15 (h0) ?_
  exact s_iret hJ d_156_16 rfl rfl (h1)
-- ReelOfBoxes$Writer.chunkEnd(LReelOfBoxes$Track;I)I : method 157
theorem d_157_0 : decode c_157 0 = .ok (.aload_n 1, 1) := by decide +kernel
theorem d_157_1 : decode c_157 1 = .ok (.invokevirtual 64, 3) := by decide +kernel
theorem d_157_4 : decode c_157 4 = .ok (.iload_n 2, 1) := by decide +kernel
theorem d_157_5 : decode c_157 5 = .ok (.iconst (1), 1) := by decide +kernel
theorem d_157_6 : decode c_157 6 = .ok (.iadd, 1) := by decide +kernel
theorem d_157_7 : decode c_157 7 = .ok (.aload_n 0, 1) := by decide +kernel
theorem d_157_8 : decode c_157 8 = .ok (.getfield 15, 3) := by decide +kernel
theorem d_157_11 : decode c_157 11 = .ok (.imul, 1) := by decide +kernel
theorem d_157_12 : decode c_157 12 = .ok (.invokestatic 69, 3) := by decide +kernel
theorem d_157_15 : decode c_157 15 = .ok (.ireturn, 1) := by decide +kernel
set_option maxRecDepth 4000 in
theorem b_157_0 {mc ms : Nat} {X : Option (Nat × (Nat → Int32))} {T : aj_Tt} {Q : aj_Q} {J : aj_J} (hJ : aj_Cl 10 c_157 (some .int) false mc ms X T Q J) {o0 : Nat} {o1 : Nat} {x2 : Int32} {Z : aj_Z} {I : aj_I} {G : aj_G} {C : Nat × Nat} (k0 : Z.2.1 o1 = some (.inl 8)) (h0 : T 0 0 130 [.ref o1] Z I G (fun r Z1 I1 G1 => J 4 [some (.ref o0), some (.ref o1), some (.int x2)] (r.toList ++ []) Z1 I1 G1 C)) : J 0 [some (.ref o0), some (.ref o1), some (.int x2)] [] Z I G C := by
  refine s_aload_n hJ d_157_0 rfl ?_
  exact s_V0 hJ lm_10_64 d_157_1 (Nat.le_of_ble_eq_true rfl) k0 (h0)
set_option maxRecDepth 4000 in
theorem b_157_4 {mc ms : Nat} {X : Option (Nat × (Nat → Int32))} {T : aj_Tt} {Q : aj_Q} {J : aj_J} (hJ : aj_Cl 10 c_157 (some .int) false mc ms X T Q J) {o0 : Nat} {w1 : Option Value} {x2 : Int32} {s0 : Int32} {Z : aj_Z} {I : aj_I} {G : aj_G} {C : Nat × Nat} (k0 : Z.2.1 o0 = some (.inl 10)) (h0 : J 15 [some (.ref o0), w1, some (.int x2)] [.int (if ((x2 + 1) * (I o0 3)) < s0 then ((x2 + 1) * (I o0 3)) else s0)] Z I G C) : J 4 [some (.ref o0), w1, some (.int x2)] [.int s0] Z I G C := by
  refine s_iload_n hJ d_157_4 rfl ?_
  refine s_iconst_1 hJ d_157_5 ?_
  refine s_iadd hJ d_157_6 ?_
  refine s_aload_n hJ d_157_7 rfl ?_
  refine s_geti hJ lf_10_15 rfl d_157_8 k0 ?_
  refine s_imul hJ d_157_11 ?_
  refine s_mmin hJ lx_10_69 d_157_12 (Nat.le_of_ble_eq_true rfl) ?_
  exact h0
set_option maxRecDepth 4000 in
theorem b_157_15 {mc ms : Nat} {X : Option (Nat × (Nat → Int32))} {T : aj_Tt} {Q : aj_Q} {J : aj_J} (hJ : aj_Cl 10 c_157 (some .int) false mc ms X T Q J) {w0 : Option Value} {w1 : Option Value} {w2 : Option Value} {s0 : Int32} {Z : aj_Z} {I : aj_I} {G : aj_G} {C : Nat × Nat} (h0 : Q (some (.int s0)) Z I G) : J 15 [w0, w1, w2] [.int s0] Z I G C := by
  exact s_iret hJ d_157_15 rfl rfl (h0)
-- ReelOfBoxes$Writer.beginsRow(LReelOfBoxes$Track;I)Z : method 158
theorem d_158_0 : decode c_158 0 = .ok (.iload_n 2, 1) := by decide +kernel
theorem d_158_1 : decode c_158 1 = .ok (.ifCond .eq (18), 3) := by decide +kernel
theorem d_158_4 : decode c_158 4 = .ok (.aload_n 1, 1) := by decide +kernel
theorem d_158_5 : decode c_158 5 = .ok (.iload_n 2, 1) := by decide +kernel
theorem d_158_6 : decode c_158 6 = .ok (.invokevirtual 72, 3) := by decide +kernel
theorem d_158_9 : decode c_158 9 = .ok (.aload_n 1, 1) := by decide +kernel
theorem d_158_10 : decode c_158 10 = .ok (.iload_n 2, 1) := by decide +kernel
theorem d_158_11 : decode c_158 11 = .ok (.iconst (1), 1) := by decide +kernel
theorem d_158_12 : decode c_158 12 = .ok (.isub, 1) := by decide +kernel
theorem d_158_13 : decode c_158 13 = .ok (.invokevirtual 72, 3) := by decide +kernel
theorem d_158_16 : decode c_158 16 = .ok (.if_icmp .eq (7), 3) := by decide +kernel
theorem d_158_19 : decode c_158 19 = .ok (.iconst (1), 1) := by decide +kernel
theorem d_158_20 : decode c_158 20 = .ok (.goto (4), 3) := by decide +kernel
theorem d_158_23 : decode c_158 23 = .ok (.iconst (0), 1) := by decide +kernel
theorem d_158_24 : decode c_158 24 = .ok (.ireturn, 1) := by decide +kernel
set_option maxRecDepth 4000 in
theorem b_158_0 {mc ms : Nat} {X : Option (Nat × (Nat → Int32))} {T : aj_Tt} {Q : aj_Q} {J : aj_J} (hJ : aj_Cl 10 c_158 (some .boolean) false mc ms X T Q J) {o1 : Nat} {x2 : Int32} {o0 : Nat} {Z : aj_Z} {I : aj_I} {G : aj_G} {C : Nat × Nat} (h0 : x2 = 0 → Q (some (.int 1)) Z I G) (k0 : Z.2.1 o1 = some (.inl 8)) (h1 : ¬ x2 = 0 → T 0 0 134 [.ref o1, .int x2] Z I G (fun r Z1 I1 G1 => J 9 [some (.ref o0), some (.ref o1), some (.int x2)] (r.toList ++ []) Z1 I1 G1 C)) : J 0 [some (.ref o0), some (.ref o1), some (.int x2)] [] Z I G C := by
  refine s_iload_n hJ d_158_0 rfl ?_
  refine s_if_eq (tgt := 19) hJ d_158_1 rfl (fun c0 => ?_) (fun c0 => ?_)
  · skip
    refine s_iconst_1 hJ d_158_19 ?_
    refine s_goto (tgt := 24) hJ d_158_20 rfl ?_
    exact s_iret hJ d_158_24 rfl rfl (h0 c0)
  · skip
    refine s_aload_n hJ d_158_4 rfl ?_
    refine s_iload_n hJ d_158_5 rfl ?_
    exact s_V1 hJ lm_10_72 d_158_6 (Nat.le_of_ble_eq_true rfl) k0 (h1 c0)
set_option maxRecDepth 4000 in
theorem b_158_9 {mc ms : Nat} {X : Option (Nat × (Nat → Int32))} {T : aj_Tt} {Q : aj_Q} {J : aj_J} (hJ : aj_Cl 10 c_158 (some .boolean) false mc ms X T Q J) {w0 : Option Value} {o1 : Nat} {x2 : Int32} {s0 : Int32} {Z : aj_Z} {I : aj_I} {G : aj_G} {C : Nat × Nat} (k0 : Z.2.1 o1 = some (.inl 8)) (h0 : T 0 0 134 [.ref o1, .int (x2 - 1)] Z I G (fun r Z1 I1 G1 => J 16 [w0, some (.ref o1), some (.int x2)] (r.toList ++ [.int s0]) Z1 I1 G1 C)) : J 9 [w0, some (.ref o1), some (.int x2)] [.int s0] Z I G C := by
  refine s_aload_n hJ d_158_9 rfl ?_
  refine s_iload_n hJ d_158_10 rfl ?_
  refine s_iconst_1 hJ d_158_11 ?_
  refine s_isub hJ d_158_12 ?_
  exact s_V1 hJ lm_10_72 d_158_13 (Nat.le_of_ble_eq_true rfl) k0 (h0)
set_option maxRecDepth 4000 in
theorem b_158_16 {mc ms : Nat} {X : Option (Nat × (Nat → Int32))} {T : aj_Tt} {Q : aj_Q} {J : aj_J} (hJ : aj_Cl 10 c_158 (some .boolean) false mc ms X T Q J) {w0 : Option Value} {w1 : Option Value} {w2 : Option Value} {s0 : Int32} {s1 : Int32} {Z : aj_Z} {I : aj_I} {G : aj_G} {C : Nat × Nat} (h0 : s1 = s0 → Q (some (.int 0)) Z I G) (h1 : ¬ s1 = s0 → Q (some (.int 1)) Z I G) : J 16 [w0, w1, w2] [.int s0, .int s1] Z I G C := by
  refine s_icmp_eq (tgt := 23) hJ d_158_16 rfl (fun c0 => ?_) (fun c0 => ?_)
  · skip
    refine s_iconst_0 hJ d_158_23 ?_
    exact s_iret hJ d_158_24 rfl rfl (h0 c0)
  · skip
    refine s_iconst_1 hJ d_158_19 ?_
    refine s_goto (tgt := 24) hJ d_158_20 rfl ?_
    exact s_iret hJ d_158_24 rfl rfl (h1 c0)
-- ReelOfBoxes$Writer.rowFrom(LReelOfBoxes$Track;I)I : method 159
theorem d_159_0 : decode c_159 0 = .ok (.aload_n 1, 1) := by decide +kernel
theorem d_159_1 : decode c_159 1 = .ok (.invokevirtual 64, 3) := by decide +kernel
theorem d_159_4 : decode c_159 4 = .ok (.istore_n 3, 1) := by decide +kernel
theorem d_159_5 : decode c_159 5 = .ok (.iload_n 2, 1) := by decide +kernel
theorem d_159_6 : decode c_159 6 = .ok (.iconst (1), 1) := by decide +kernel
theorem d_159_7 : decode c_159 7 = .ok (.iadd, 1) := by decide +kernel
theorem d_159_8 : decode c_159 8 = .ok (.istore 4, 2) := by decide +kernel
theorem d_159_10 : decode c_159 10 = .ok (.iload 4, 2) := by decide +kernel
theorem d_159_12 : decode c_159 12 = .ok (.iload_n 3, 1) := by decide +kernel
theorem d_159_13 : decode c_159 13 = .ok (.if_icmp .ge (19), 3) := by decide +kernel
theorem d_159_16 : decode c_159 16 = .ok (.aload_n 0, 1) := by decide +kernel
theorem d_159_17 : decode c_159 17 = .ok (.aload_n 1, 1) := by decide +kernel
theorem d_159_18 : decode c_159 18 = .ok (.iload 4, 2) := by decide +kernel
theorem d_159_20 : decode c_159 20 = .ok (.invokevirtual 75, 3) := by decide +kernel
theorem d_159_23 : decode c_159 23 = .ok (.ifCond .ne (9), 3) := by decide +kernel
theorem d_159_26 : decode c_159 26 = .ok (.iinc 4 (1), 3) := by decide +kernel
theorem d_159_29 : decode c_159 29 = .ok (.goto (-19), 3) := by decide +kernel
theorem d_159_32 : decode c_159 32 = .ok (.iload 4, 2) := by decide +kernel
theorem d_159_34 : decode c_159 34 = .ok (.iload_n 2, 1) := by decide +kernel
theorem d_159_35 : decode c_159 35 = .ok (.isub, 1) := by decide +kernel
theorem d_159_36 : decode c_159 36 = .ok (.ireturn, 1) := by decide +kernel
set_option maxRecDepth 4000 in
theorem b_159_0 {mc ms : Nat} {X : Option (Nat × (Nat → Int32))} {T : aj_Tt} {Q : aj_Q} {J : aj_J} (hJ : aj_Cl 10 c_159 (some .int) false mc ms X T Q J) {o0 : Nat} {o1 : Nat} {x2 : Int32} {Z : aj_Z} {I : aj_I} {G : aj_G} {C : Nat × Nat} (k0 : Z.2.1 o1 = some (.inl 8)) (h0 : T 0 0 130 [.ref o1] Z I G (fun r Z1 I1 G1 => J 4 [some (.ref o0), some (.ref o1), some (.int x2), none, none] (r.toList ++ []) Z1 I1 G1 C)) : J 0 [some (.ref o0), some (.ref o1), some (.int x2), none, none] [] Z I G C := by
  refine s_aload_n hJ d_159_0 rfl ?_
  exact s_V0 hJ lm_10_64 d_159_1 (Nat.le_of_ble_eq_true rfl) k0 (h0)
set_option maxRecDepth 4000 in
theorem b_159_4 {mc ms : Nat} {X : Option (Nat × (Nat → Int32))} {T : aj_Tt} {Q : aj_Q} {J : aj_J} (hJ : aj_Cl 10 c_159 (some .int) false mc ms X T Q J) {o0 : Nat} {o1 : Nat} {x2 : Int32} {w3 : Option Value} {w4 : Option Value} {s0 : Int32} {Z : aj_Z} {I : aj_I} {G : aj_G} {C : Nat × Nat} (h0 : J 10 [some (.ref o0), some (.ref o1), some (.int x2), some (.int s0), some (.int (x2 + 1))] [] Z I G C) : J 4 [some (.ref o0), some (.ref o1), some (.int x2), w3, w4] [.int s0] Z I G C := by
  refine s_istore_n hJ d_159_4 (Nat.le_of_ble_eq_true rfl) ?_
  refine s_iload_n hJ d_159_5 rfl ?_
  refine s_iconst_1 hJ d_159_6 ?_
  refine s_iadd hJ d_159_7 ?_
  refine s_istore hJ d_159_8 (Nat.le_of_ble_eq_true rfl) ?_
  exact h0
set_option maxRecDepth 4000 in
theorem b_159_10 {mc ms : Nat} {X : Option (Nat × (Nat → Int32))} {T : aj_Tt} {Q : aj_Q} {J : aj_J} (hJ : aj_Cl 10 c_159 (some .int) false mc ms X T Q J) {o0 : Nat} {o1 : Nat} {x2 : Int32} {x3 : Int32} {x4 : Int32} {Z : aj_Z} {I : aj_I} {G : aj_G} {C : Nat × Nat} (h0 : x3 ≤ x4 → Q (some (.int (x4 - x2))) Z I G) (k0 : Z.2.1 o0 = some (.inl 10)) (h1 : ¬ x3 ≤ x4 → T 0 0 158 [.ref o0, .ref o1, .int x4] Z I G (fun r Z1 I1 G1 => J 23 [some (.ref o0), some (.ref o1), some (.int x2), some (.int x3), some (.int x4)] (r.toList ++ []) Z1 I1 G1 C)) : J 10 [some (.ref o0), some (.ref o1), some (.int x2), some (.int x3), some (.int x4)] [] Z I G C := by
  refine s_iload hJ d_159_10 rfl ?_
  refine s_iload_n hJ d_159_12 rfl ?_
  refine s_icmp_ge (tgt := 32) hJ d_159_13 rfl (fun c0 => ?_) (fun c0 => ?_)
  · skip
    refine s_iload hJ d_159_32 rfl ?_
    refine s_iload_n hJ d_159_34 rfl ?_
    refine s_isub hJ d_159_35 ?_
    exact s_iret hJ d_159_36 rfl rfl (h0 c0)
  · skip
    refine s_aload_n hJ d_159_16 rfl ?_
    refine s_aload_n hJ d_159_17 rfl ?_
    refine s_iload hJ d_159_18 rfl ?_
    exact s_V2 hJ lm_10_75 d_159_20 (Nat.le_of_ble_eq_true rfl) k0 (h1 c0)
set_option maxRecDepth 4000 in
theorem b_159_23 {mc ms : Nat} {X : Option (Nat × (Nat → Int32))} {T : aj_Tt} {Q : aj_Q} {J : aj_J} (hJ : aj_Cl 10 c_159 (some .int) false mc ms X T Q J) {o0 : Nat} {o1 : Nat} {x2 : Int32} {x3 : Int32} {x4 : Int32} {s0 : Int32} {Z : aj_Z} {I : aj_I} {G : aj_G} {C : Nat × Nat} (h0 : ¬ s0 = 0 → Q (some (.int (x4 - x2))) Z I G) (h1 : s0 = 0 → J 10 [some (.ref o0), some (.ref o1), some (.int x2), some (.int x3), some (.int (x4 + 1))] [] Z I G C) : J 23 [some (.ref o0), some (.ref o1), some (.int x2), some (.int x3), some (.int x4)] [.int s0] Z I G C := by
  refine s_if_ne (tgt := 32) hJ d_159_23 rfl (fun c0 => ?_) (fun c0 => ?_)
  · skip
    refine s_iload hJ d_159_32 rfl ?_
    refine s_iload_n hJ d_159_34 rfl ?_
    refine s_isub hJ d_159_35 ?_
    exact s_iret hJ d_159_36 rfl rfl (h0 c0)
  · skip
    refine s_iinc (v := 1) hJ d_159_26 rfl (by decide) ?_
    refine s_goto (tgt := 10) hJ d_159_29 rfl ?_
    exact h1 c0
-- ReelOfBoxes$Writer.sttsEntries(LReelOfBoxes$Track;)I : method 160
theorem d_160_0 : decode c_160 0 = .ok (.aload_n 1, 1) := by decide +kernel
theorem d_160_1 : decode c_160 1 = .ok (.invokevirtual 64, 3) := by decide +kernel
theorem d_160_4 : decode c_160 4 = .ok (.istore_n 2, 1) := by decide +kernel
theorem d_160_5 : decode c_160 5 = .ok (.iconst (0), 1) := by decide +kernel
theorem d_160_6 : decode c_160 6 = .ok (.istore_n 3, 1) := by decide +kernel
theorem d_160_7 : decode c_160 7 = .ok (.iconst (0), 1) := by decide +kernel
theorem d_160_8 : decode c_160 8 = .ok (.istore 4, 2) := by decide +kernel
theorem d_160_10 : decode c_160 10 = .ok (.iload 4, 2) := by decide +kernel
theorem d_160_12 : decode c_160 12 = .ok (.iload_n 2, 1) := by decide +kernel
theorem d_160_13 : decode c_160 13 = .ok (.if_icmp .ge (22), 3) := by decide +kernel
theorem d_160_16 : decode c_160 16 = .ok (.aload_n 0, 1) := by decide +kernel
theorem d_160_17 : decode c_160 17 = .ok (.aload_n 1, 1) := by decide +kernel
theorem d_160_18 : decode c_160 18 = .ok (.iload 4, 2) := by decide +kernel
theorem d_160_20 : decode c_160 20 = .ok (.invokevirtual 75, 3) := by decide +kernel
theorem d_160_23 : decode c_160 23 = .ok (.ifCond .eq (6), 3) := by decide +kernel
theorem d_160_26 : decode c_160 26 = .ok (.iinc 3 (1), 3) := by decide +kernel
theorem d_160_29 : decode c_160 29 = .ok (.iinc 4 (1), 3) := by decide +kernel
theorem d_160_32 : decode c_160 32 = .ok (.goto (-22), 3) := by decide +kernel
theorem d_160_35 : decode c_160 35 = .ok (.iload_n 3, 1) := by decide +kernel
theorem d_160_36 : decode c_160 36 = .ok (.ireturn, 1) := by decide +kernel
set_option maxRecDepth 4000 in
theorem b_160_0 {mc ms : Nat} {X : Option (Nat × (Nat → Int32))} {T : aj_Tt} {Q : aj_Q} {J : aj_J} (hJ : aj_Cl 10 c_160 (some .int) false mc ms X T Q J) {o0 : Nat} {o1 : Nat} {Z : aj_Z} {I : aj_I} {G : aj_G} {C : Nat × Nat} (k0 : Z.2.1 o1 = some (.inl 8)) (h0 : T 0 0 130 [.ref o1] Z I G (fun r Z1 I1 G1 => J 4 [some (.ref o0), some (.ref o1), none, none, none] (r.toList ++ []) Z1 I1 G1 C)) : J 0 [some (.ref o0), some (.ref o1), none, none, none] [] Z I G C := by
  refine s_aload_n hJ d_160_0 rfl ?_
  exact s_V0 hJ lm_10_64 d_160_1 (Nat.le_of_ble_eq_true rfl) k0 (h0)
set_option maxRecDepth 4000 in
theorem b_160_4 {mc ms : Nat} {X : Option (Nat × (Nat → Int32))} {T : aj_Tt} {Q : aj_Q} {J : aj_J} (hJ : aj_Cl 10 c_160 (some .int) false mc ms X T Q J) {o0 : Nat} {o1 : Nat} {w2 : Option Value} {w3 : Option Value} {w4 : Option Value} {s0 : Int32} {Z : aj_Z} {I : aj_I} {G : aj_G} {C : Nat × Nat} (h0 : J 10 [some (.ref o0), some (.ref o1), some (.int s0), some (.int 0), some (.int 0)] [] Z I G C) : J 4 [some (.ref o0), some (.ref o1), w2, w3, w4] [.int s0] Z I G C := by
  refine s_istore_n hJ d_160_4 (Nat.le_of_ble_eq_true rfl) ?_
  refine s_iconst_0 hJ d_160_5 ?_
  refine s_istore_n hJ d_160_6 (Nat.le_of_ble_eq_true rfl) ?_
  refine s_iconst_0 hJ d_160_7 ?_
  refine s_istore hJ d_160_8 (Nat.le_of_ble_eq_true rfl) ?_
  exact h0
set_option maxRecDepth 4000 in
theorem b_160_10 {mc ms : Nat} {X : Option (Nat × (Nat → Int32))} {T : aj_Tt} {Q : aj_Q} {J : aj_J} (hJ : aj_Cl 10 c_160 (some .int) false mc ms X T Q J) {o0 : Nat} {o1 : Nat} {x2 : Int32} {x3 : Int32} {x4 : Int32} {Z : aj_Z} {I : aj_I} {G : aj_G} {C : Nat × Nat} (h0 : x2 ≤ x4 → Q (some (.int x3)) Z I G) (k0 : Z.2.1 o0 = some (.inl 10)) (h1 : ¬ x2 ≤ x4 → T 0 0 158 [.ref o0, .ref o1, .int x4] Z I G (fun r Z1 I1 G1 => J 23 [some (.ref o0), some (.ref o1), some (.int x2), some (.int x3), some (.int x4)] (r.toList ++ []) Z1 I1 G1 C)) : J 10 [some (.ref o0), some (.ref o1), some (.int x2), some (.int x3), some (.int x4)] [] Z I G C := by
  refine s_iload hJ d_160_10 rfl ?_
  refine s_iload_n hJ d_160_12 rfl ?_
  refine s_icmp_ge (tgt := 35) hJ d_160_13 rfl (fun c0 => ?_) (fun c0 => ?_)
  · skip
    refine s_iload_n hJ d_160_35 rfl ?_
    exact s_iret hJ d_160_36 rfl rfl (h0 c0)
  · skip
    refine s_aload_n hJ d_160_16 rfl ?_
    refine s_aload_n hJ d_160_17 rfl ?_
    refine s_iload hJ d_160_18 rfl ?_
    exact s_V2 hJ lm_10_75 d_160_20 (Nat.le_of_ble_eq_true rfl) k0 (h1 c0)
set_option maxRecDepth 4000 in
theorem b_160_23 {mc ms : Nat} {X : Option (Nat × (Nat → Int32))} {T : aj_Tt} {Q : aj_Q} {J : aj_J} (hJ : aj_Cl 10 c_160 (some .int) false mc ms X T Q J) {o0 : Nat} {o1 : Nat} {x2 : Int32} {x3 : Int32} {x4 : Int32} {s0 : Int32} {Z : aj_Z} {I : aj_I} {G : aj_G} {C : Nat × Nat} (h0 : s0 = 0 → J 10 [some (.ref o0), some (.ref o1), some (.int x2), some (.int x3), some (.int (x4 + 1))] [] Z I G C) (h1 : ¬ s0 = 0 → J 10 [some (.ref o0), some (.ref o1), some (.int x2), some (.int (x3 + 1)), some (.int (x4 + 1))] [] Z I G C) : J 23 [some (.ref o0), some (.ref o1), some (.int x2), some (.int x3), some (.int x4)] [.int s0] Z I G C := by
  refine s_if_eq (tgt := 29) hJ d_160_23 rfl (fun c0 => ?_) (fun c0 => ?_)
  · skip
    refine s_iinc (v := 1) hJ d_160_29 rfl (by decide) ?_
    refine s_goto (tgt := 10) hJ d_160_32 rfl ?_
    exact h0 c0
  · skip
    refine s_iinc (v := 1) hJ d_160_26 rfl (by decide) ?_
    refine s_iinc (v := 1) hJ d_160_29 rfl (by decide) ?_
    refine s_goto (tgt := 10) hJ d_160_32 rfl ?_
    exact h1 c0
-- ReelOfBoxes$Writer.stscEntries(LReelOfBoxes$Track;)I : method 161
theorem d_161_0 : decode c_161 0 = .ok (.aload_n 1, 1) := by decide +kernel
theorem d_161_1 : decode c_161 1 = .ok (.invokevirtual 64, 3) := by decide +kernel
theorem d_161_4 : decode c_161 4 = .ok (.istore_n 2, 1) := by decide +kernel
theorem d_161_5 : decode c_161 5 = .ok (.iload_n 2, 1) := by decide +kernel
theorem d_161_6 : decode c_161 6 = .ok (.aload_n 0, 1) := by decide +kernel
theorem d_161_7 : decode c_161 7 = .ok (.getfield 15, 3) := by decide +kernel
theorem d_161_10 : decode c_161 10 = .ok (.if_icmp .gt (13), 3) := by decide +kernel
theorem d_161_13 : decode c_161 13 = .ok (.iload_n 2, 1) := by decide +kernel
theorem d_161_14 : decode c_161 14 = .ok (.ifCond .ne (7), 3) := by decide +kernel
theorem d_161_17 : decode c_161 17 = .ok (.iconst (0), 1) := by decide +kernel
theorem d_161_18 : decode c_161 18 = .ok (.goto (4), 3) := by decide +kernel
theorem d_161_21 : decode c_161 21 = .ok (.iconst (1), 1) := by decide +kernel
theorem d_161_22 : decode c_161 22 = .ok (.ireturn, 1) := by decide +kernel
theorem d_161_23 : decode c_161 23 = .ok (.iload_n 2, 1) := by decide +kernel
theorem d_161_24 : decode c_161 24 = .ok (.aload_n 0, 1) := by decide +kernel
theorem d_161_25 : decode c_161 25 = .ok (.getfield 15, 3) := by decide +kernel
theorem d_161_28 : decode c_161 28 = .ok (.irem, 1) := by decide +kernel
theorem d_161_29 : decode c_161 29 = .ok (.ifCond .ne (7), 3) := by decide +kernel
theorem d_161_32 : decode c_161 32 = .ok (.iconst (1), 1) := by decide +kernel
theorem d_161_33 : decode c_161 33 = .ok (.goto (4), 3) := by decide +kernel
theorem d_161_36 : decode c_161 36 = .ok (.iconst (2), 1) := by decide +kernel
theorem d_161_37 : decode c_161 37 = .ok (.ireturn, 1) := by decide +kernel
set_option maxRecDepth 4000 in
theorem b_161_0 {mc ms : Nat} {X : Option (Nat × (Nat → Int32))} {T : aj_Tt} {Q : aj_Q} {J : aj_J} (hJ : aj_Cl 10 c_161 (some .int) false mc ms X T Q J) {o0 : Nat} {o1 : Nat} {Z : aj_Z} {I : aj_I} {G : aj_G} {C : Nat × Nat} (k0 : Z.2.1 o1 = some (.inl 8)) (h0 : T 0 0 130 [.ref o1] Z I G (fun r Z1 I1 G1 => J 4 [some (.ref o0), some (.ref o1), none] (r.toList ++ []) Z1 I1 G1 C)) : J 0 [some (.ref o0), some (.ref o1), none] [] Z I G C := by
  refine s_aload_n hJ d_161_0 rfl ?_
  exact s_V0 hJ lm_10_64 d_161_1 (Nat.le_of_ble_eq_true rfl) k0 (h0)
set_option maxRecDepth 4000 in
theorem b_161_4 {mc ms : Nat} {X : Option (Nat × (Nat → Int32))} {T : aj_Tt} {Q : aj_Q} {J : aj_J} (hJ : aj_Cl 10 c_161 (some .int) false mc ms X T Q J) {o0 : Nat} {w1 : Option Value} {w2 : Option Value} {s0 : Int32} {Z : aj_Z} {I : aj_I} {G : aj_G} {C : Nat × Nat} (k0 : Z.2.1 o0 = some (.inl 10)) (h0 : (I o0 3) < s0 → ¬ (I o0 3) = 0) (h1 : (I o0 3) < s0 → ¬ (s0 - s0 / (I o0 3) * (I o0 3)) = 0 → Q (some (.int 2)) Z I G) (h2 : (I o0 3) < s0 → (s0 - s0 / (I o0 3) * (I o0 3)) = 0 → Q (some (.int 1)) Z I G) (h3 : ¬ (I o0 3) < s0 → ¬ s0 = 0 → Q (some (.int 1)) Z I G) (h4 : ¬ (I o0 3) < s0 → s0 = 0 → Q (some (.int 0)) Z I G) : J 4 [some (.ref o0), w1, w2] [.int s0] Z I G C := by
  refine s_istore_n hJ d_161_4 (Nat.le_of_ble_eq_true rfl) ?_
  refine s_iload_n hJ d_161_5 rfl ?_
  refine s_aload_n hJ d_161_6 rfl ?_
  refine s_geti hJ lf_10_15 rfl d_161_7 k0 ?_
  refine s_icmp_gt (tgt := 23) hJ d_161_10 rfl (fun c0 => ?_) (fun c0 => ?_)
  · skip
    refine s_iload_n hJ d_161_23 rfl ?_
    refine s_aload_n hJ d_161_24 rfl ?_
    refine s_geti hJ lf_10_15 rfl d_161_25 k0 ?_
    refine s_irem hJ d_161_28 (h0 c0) ?_
    refine s_if_ne (tgt := 36) hJ d_161_29 rfl (fun c1 => ?_) (fun c1 => ?_)
    · skip
      refine s_iconst_2 hJ d_161_36 ?_
      exact s_iret hJ d_161_37 rfl rfl (h1 c0 c1)
    · skip
      refine s_iconst_1 hJ d_161_32 ?_
      refine s_goto (tgt := 37) hJ d_161_33 rfl ?_
      exact s_iret hJ d_161_37 rfl rfl (h2 c0 c1)
  · skip
    refine s_iload_n hJ d_161_13 rfl ?_
    refine s_if_ne (tgt := 21) hJ d_161_14 rfl (fun c1 => ?_) (fun c1 => ?_)
    · skip
      refine s_iconst_1 hJ d_161_21 ?_
      exact s_iret hJ d_161_22 rfl rfl (h3 c0 c1)
    · skip
      refine s_iconst_0 hJ d_161_17 ?_
      refine s_goto (tgt := 22) hJ d_161_18 rfl ?_
      exact s_iret hJ d_161_22 rfl rfl (h4 c0 c1)
-- ReelOfBoxes$Writer.placeWidth()I : method 162
theorem d_162_0 : decode c_162 0 = .ok (.aload_n 0, 1) := by decide +kernel
theorem d_162_1 : decode c_162 1 = .ok (.getfield 19, 3) := by decide +kernel
theorem d_162_4 : decode c_162 4 = .ok (.ifCond .eq (8), 3) := by decide +kernel
theorem d_162_7 : decode c_162 7 = .ok (.bipush (8), 2) := by decide +kernel
theorem d_162_9 : decode c_162 9 = .ok (.goto (4), 3) := by decide +kernel
theorem d_162_12 : decode c_162 12 = .ok (.iconst (4), 1) := by decide +kernel
theorem d_162_13 : decode c_162 13 = .ok (.ireturn, 1) := by decide +kernel
set_option maxRecDepth 4000 in
theorem b_162_0 {mc ms : Nat} {X : Option (Nat × (Nat → Int32))} {T : aj_Tt} {Q : aj_Q} {J : aj_J} (hJ : aj_Cl 10 c_162 (some .int) false mc ms X T Q J) {o0 : Nat} {Z : aj_Z} {I : aj_I} {G : aj_G} {C : Nat × Nat} (k0 : Z.2.1 o0 = some (.inl 10)) (h0 : (I o0 4) = 0 → Q (some (.int 4)) Z I G) (h1 : ¬ (I o0 4) = 0 → Q (some (.int 8)) Z I G) : J 0 [some (.ref o0)] [] Z I G C := by
  refine s_aload_n hJ d_162_0 rfl ?_
  refine s_geti hJ lf_10_19 rfl d_162_1 k0 ?_
  refine s_if_eq (tgt := 12) hJ d_162_4 rfl (fun c0 => ?_) (fun c0 => ?_)
  · skip
    refine s_iconst_4 hJ d_162_12 ?_
    exact s_iret hJ d_162_13 rfl rfl (h0 c0)
  · skip
    refine s_bipush (v := 8) hJ d_162_7 (by decide) ?_
    refine s_goto (tgt := 13) hJ d_162_9 rfl ?_
    exact s_iret hJ d_162_13 rfl rfl (h1 c0)
-- ReelOfBoxes$Writer.tableSize(II)I : method 163
theorem d_163_0 : decode c_163 0 = .ok (.bipush (16), 2) := by decide +kernel
theorem d_163_2 : decode c_163 2 = .ok (.iload_n 0, 1) := by decide +kernel
theorem d_163_3 : decode c_163 3 = .ok (.iload_n 1, 1) := by decide +kernel
theorem d_163_4 : decode c_163 4 = .ok (.imul, 1) := by decide +kernel
theorem d_163_5 : decode c_163 5 = .ok (.iadd, 1) := by decide +kernel
theorem d_163_6 : decode c_163 6 = .ok (.ireturn, 1) := by decide +kernel
set_option maxRecDepth 4000 in
theorem b_163_0 {mc ms : Nat} {X : Option (Nat × (Nat → Int32))} {T : aj_Tt} {Q : aj_Q} {J : aj_J} (hJ : aj_Cl 10 c_163 (some .int) false mc ms X T Q J) {x0 : Int32} {x1 : Int32} {Z : aj_Z} {I : aj_I} {G : aj_G} {C : Nat × Nat} (h0 : Q (some (.int (16 + (x0 * x1)))) Z I G) : J 0 [some (.int x0), some (.int x1)] [] Z I G C := by
  refine s_bipush (v := 16) hJ d_163_0 (by decide) ?_
  refine s_iload_n hJ d_163_2 rfl ?_
  refine s_iload_n hJ d_163_3 rfl ?_
  refine s_imul hJ d_163_4 ?_
  refine s_iadd hJ d_163_5 ?_
  exact s_iret hJ d_163_6 rfl rfl (h0)
-- ReelOfBoxes$Writer.stszSize(I)I : method 164
theorem d_164_0 : decode c_164 0 = .ok (.iload_n 0, 1) := by decide +kernel
theorem d_164_1 : decode c_164 1 = .ok (.iconst (4), 1) := by decide +kernel
theorem d_164_2 : decode c_164 2 = .ok (.invokestatic 79, 3) := by decide +kernel
theorem d_164_5 : decode c_164 5 = .ok (.iconst (4), 1) := by decide +kernel
theorem d_164_6 : decode c_164 6 = .ok (.iadd, 1) := by decide +kernel
theorem d_164_7 : decode c_164 7 = .ok (.ireturn, 1) := by decide +kernel
set_option maxRecDepth 4000 in
theorem b_164_0 {mc ms : Nat} {X : Option (Nat × (Nat → Int32))} {T : aj_Tt} {Q : aj_Q} {J : aj_J} (hJ : aj_Cl 10 c_164 (some .int) false mc ms X T Q J) {x0 : Int32} {Z : aj_Z} {I : aj_I} {G : aj_G} {C : Nat × Nat} (h0 : T 0 0 163 [.int x0, .int 4] Z I G (fun r Z1 I1 G1 => J 5 [some (.int x0)] (r.toList ++ []) Z1 I1 G1 C)) : J 0 [some (.int x0)] [] Z I G C := by
  refine s_iload_n hJ d_164_0 rfl ?_
  refine s_iconst_4 hJ d_164_1 ?_
  exact s_S2 hJ lm_10_79 d_164_2 (Nat.le_of_ble_eq_true rfl) (h0)
set_option maxRecDepth 4000 in
theorem b_164_5 {mc ms : Nat} {X : Option (Nat × (Nat → Int32))} {T : aj_Tt} {Q : aj_Q} {J : aj_J} (hJ : aj_Cl 10 c_164 (some .int) false mc ms X T Q J) {w0 : Option Value} {s0 : Int32} {Z : aj_Z} {I : aj_I} {G : aj_G} {C : Nat × Nat} (h0 : Q (some (.int (s0 + 4))) Z I G) : J 5 [w0] [.int s0] Z I G C := by
  refine s_iconst_4 hJ d_164_5 ?_
  refine s_iadd hJ d_164_6 ?_
  exact s_iret hJ d_164_7 rfl rfl (h0)
-- ReelOfBoxes$Writer.stblSize(LReelOfBoxes$Track;)I : method 165
theorem d_165_0 : decode c_165 0 = .ok (.bipush (8), 2) := by decide +kernel
theorem d_165_2 : decode c_165 2 = .ok (.aload_n 0, 1) := by decide +kernel
theorem d_165_3 : decode c_165 3 = .ok (.aload_n 1, 1) := by decide +kernel
theorem d_165_4 : decode c_165 4 = .ok (.invokevirtual 82, 3) := by decide +kernel
theorem d_165_7 : decode c_165 7 = .ok (.bipush (8), 2) := by decide +kernel
theorem d_165_9 : decode c_165 9 = .ok (.invokestatic 79, 3) := by decide +kernel
theorem d_165_12 : decode c_165 12 = .ok (.iadd, 1) := by decide +kernel
theorem d_165_13 : decode c_165 13 = .ok (.aload_n 0, 1) := by decide +kernel
theorem d_165_14 : decode c_165 14 = .ok (.aload_n 1, 1) := by decide +kernel
theorem d_165_15 : decode c_165 15 = .ok (.invokevirtual 86, 3) := by decide +kernel
theorem d_165_18 : decode c_165 18 = .ok (.bipush (12), 2) := by decide +kernel
theorem d_165_20 : decode c_165 20 = .ok (.invokestatic 79, 3) := by decide +kernel
theorem d_165_23 : decode c_165 23 = .ok (.iadd, 1) := by decide +kernel
theorem d_165_24 : decode c_165 24 = .ok (.aload_n 1, 1) := by decide +kernel
theorem d_165_25 : decode c_165 25 = .ok (.invokevirtual 64, 3) := by decide +kernel
theorem d_165_28 : decode c_165 28 = .ok (.invokestatic 89, 3) := by decide +kernel
theorem d_165_31 : decode c_165 31 = .ok (.iadd, 1) := by decide +kernel
theorem d_165_32 : decode c_165 32 = .ok (.aload_n 0, 1) := by decide +kernel
theorem d_165_33 : decode c_165 33 = .ok (.aload_n 1, 1) := by decide +kernel
theorem d_165_34 : decode c_165 34 = .ok (.invokevirtual 92, 3) := by decide +kernel
theorem d_165_37 : decode c_165 37 = .ok (.aload_n 0, 1) := by decide +kernel
theorem d_165_38 : decode c_165 38 = .ok (.invokevirtual 95, 3) := by decide +kernel
theorem d_165_41 : decode c_165 41 = .ok (.invokestatic 79, 3) := by decide +kernel
theorem d_165_44 : decode c_165 44 = .ok (.iadd, 1) := by decide +kernel
theorem d_165_45 : decode c_165 45 = .ok (.ireturn, 1) := by decide +kernel
set_option maxRecDepth 4000 in
theorem b_165_0 {mc ms : Nat} {X : Option (Nat × (Nat → Int32))} {T : aj_Tt} {Q : aj_Q} {J : aj_J} (hJ : aj_Cl 10 c_165 (some .int) false mc ms X T Q J) {o0 : Nat} {o1 : Nat} {Z : aj_Z} {I : aj_I} {G : aj_G} {C : Nat × Nat} (k0 : Z.2.1 o0 = some (.inl 10)) (h0 : T 0 0 160 [.ref o0, .ref o1] Z I G (fun r Z1 I1 G1 => J 7 [some (.ref o0), some (.ref o1)] (r.toList ++ [.int 8]) Z1 I1 G1 C)) : J 0 [some (.ref o0), some (.ref o1)] [] Z I G C := by
  refine s_bipush (v := 8) hJ d_165_0 (by decide) ?_
  refine s_aload_n hJ d_165_2 rfl ?_
  refine s_aload_n hJ d_165_3 rfl ?_
  exact s_V1 hJ lm_10_82 d_165_4 (Nat.le_of_ble_eq_true rfl) k0 (h0)
set_option maxRecDepth 4000 in
theorem b_165_7 {mc ms : Nat} {X : Option (Nat × (Nat → Int32))} {T : aj_Tt} {Q : aj_Q} {J : aj_J} (hJ : aj_Cl 10 c_165 (some .int) false mc ms X T Q J) {o0 : Nat} {o1 : Nat} {s0 : Int32} {s1 : Int32} {Z : aj_Z} {I : aj_I} {G : aj_G} {C : Nat × Nat} (h0 : T 0 0 163 [.int s0, .int 8] Z I G (fun r Z1 I1 G1 => J 12 [some (.ref o0), some (.ref o1)] (r.toList ++ [.int s1]) Z1 I1 G1 C)) : J 7 [some (.ref o0), some (.ref o1)] [.int s0, .int s1] Z I G C := by
  refine s_bipush (v := 8) hJ d_165_7 (by decide) ?_
  exact s_S2 hJ lm_10_79 d_165_9 (Nat.le_of_ble_eq_true rfl) (h0)
set_option maxRecDepth 4000 in
theorem b_165_12 {mc ms : Nat} {X : Option (Nat × (Nat → Int32))} {T : aj_Tt} {Q : aj_Q} {J : aj_J} (hJ : aj_Cl 10 c_165 (some .int) false mc ms X T Q J) {o0 : Nat} {o1 : Nat} {s0 : Int32} {s1 : Int32} {Z : aj_Z} {I : aj_I} {G : aj_G} {C : Nat × Nat} (k0 : Z.2.1 o0 = some (.inl 10)) (h0 : T 0 0 161 [.ref o0, .ref o1] Z I G (fun r Z1 I1 G1 => J 18 [some (.ref o0), some (.ref o1)] (r.toList ++ [.int (s1 + s0)]) Z1 I1 G1 C)) : J 12 [some (.ref o0), some (.ref o1)] [.int s0, .int s1] Z I G C := by
  refine s_iadd hJ d_165_12 ?_
  refine s_aload_n hJ d_165_13 rfl ?_
  refine s_aload_n hJ d_165_14 rfl ?_
  exact s_V1 hJ lm_10_86 d_165_15 (Nat.le_of_ble_eq_true rfl) k0 (h0)
set_option maxRecDepth 4000 in
theorem b_165_18 {mc ms : Nat} {X : Option (Nat × (Nat → Int32))} {T : aj_Tt} {Q : aj_Q} {J : aj_J} (hJ : aj_Cl 10 c_165 (some .int) false mc ms X T Q J) {o0 : Nat} {o1 : Nat} {s0 : Int32} {s1 : Int32} {Z : aj_Z} {I : aj_I} {G : aj_G} {C : Nat × Nat} (h0 : T 0 0 163 [.int s0, .int 12] Z I G (fun r Z1 I1 G1 => J 23 [some (.ref o0), some (.ref o1)] (r.toList ++ [.int s1]) Z1 I1 G1 C)) : J 18 [some (.ref o0), some (.ref o1)] [.int s0, .int s1] Z I G C := by
  refine s_bipush (v := 12) hJ d_165_18 (by decide) ?_
  exact s_S2 hJ lm_10_79 d_165_20 (Nat.le_of_ble_eq_true rfl) (h0)
set_option maxRecDepth 4000 in
theorem b_165_23 {mc ms : Nat} {X : Option (Nat × (Nat → Int32))} {T : aj_Tt} {Q : aj_Q} {J : aj_J} (hJ : aj_Cl 10 c_165 (some .int) false mc ms X T Q J) {o0 : Nat} {o1 : Nat} {s0 : Int32} {s1 : Int32} {Z : aj_Z} {I : aj_I} {G : aj_G} {C : Nat × Nat} (k0 : Z.2.1 o1 = some (.inl 8)) (h0 : T 0 0 130 [.ref o1] Z I G (fun r Z1 I1 G1 => J 28 [some (.ref o0), some (.ref o1)] (r.toList ++ [.int (s1 + s0)]) Z1 I1 G1 C)) : J 23 [some (.ref o0), some (.ref o1)] [.int s0, .int s1] Z I G C := by
  refine s_iadd hJ d_165_23 ?_
  refine s_aload_n hJ d_165_24 rfl ?_
  exact s_V0 hJ lm_10_64 d_165_25 (Nat.le_of_ble_eq_true rfl) k0 (h0)
set_option maxRecDepth 4000 in
theorem b_165_28 {mc ms : Nat} {X : Option (Nat × (Nat → Int32))} {T : aj_Tt} {Q : aj_Q} {J : aj_J} (hJ : aj_Cl 10 c_165 (some .int) false mc ms X T Q J) {o0 : Nat} {o1 : Nat} {s0 : Int32} {s1 : Int32} {Z : aj_Z} {I : aj_I} {G : aj_G} {C : Nat × Nat} (h0 : T 0 0 164 [.int s0] Z I G (fun r Z1 I1 G1 => J 31 [some (.ref o0), some (.ref o1)] (r.toList ++ [.int s1]) Z1 I1 G1 C)) : J 28 [some (.ref o0), some (.ref o1)] [.int s0, .int s1] Z I G C := by
  exact s_S1 hJ lm_10_89 d_165_28 (Nat.le_of_ble_eq_true rfl) (h0)
set_option maxRecDepth 4000 in
theorem b_165_31 {mc ms : Nat} {X : Option (Nat × (Nat → Int32))} {T : aj_Tt} {Q : aj_Q} {J : aj_J} (hJ : aj_Cl 10 c_165 (some .int) false mc ms X T Q J) {o0 : Nat} {o1 : Nat} {s0 : Int32} {s1 : Int32} {Z : aj_Z} {I : aj_I} {G : aj_G} {C : Nat × Nat} (k0 : Z.2.1 o0 = some (.inl 10)) (h0 : T 0 0 156 [.ref o0, .ref o1] Z I G (fun r Z1 I1 G1 => J 37 [some (.ref o0), some (.ref o1)] (r.toList ++ [.int (s1 + s0)]) Z1 I1 G1 C)) : J 31 [some (.ref o0), some (.ref o1)] [.int s0, .int s1] Z I G C := by
  refine s_iadd hJ d_165_31 ?_
  refine s_aload_n hJ d_165_32 rfl ?_
  refine s_aload_n hJ d_165_33 rfl ?_
  exact s_V1 hJ lm_10_92 d_165_34 (Nat.le_of_ble_eq_true rfl) k0 (h0)
set_option maxRecDepth 4000 in
theorem b_165_37 {mc ms : Nat} {X : Option (Nat × (Nat → Int32))} {T : aj_Tt} {Q : aj_Q} {J : aj_J} (hJ : aj_Cl 10 c_165 (some .int) false mc ms X T Q J) {o0 : Nat} {w1 : Option Value} {s0 : Int32} {s1 : Int32} {Z : aj_Z} {I : aj_I} {G : aj_G} {C : Nat × Nat} (k0 : Z.2.1 o0 = some (.inl 10)) (h0 : T 0 0 162 [.ref o0] Z I G (fun r Z1 I1 G1 => J 41 [some (.ref o0), w1] (r.toList ++ [.int s0, .int s1]) Z1 I1 G1 C)) : J 37 [some (.ref o0), w1] [.int s0, .int s1] Z I G C := by
  refine s_aload_n hJ d_165_37 rfl ?_
  exact s_V0 hJ lm_10_95 d_165_38 (Nat.le_of_ble_eq_true rfl) k0 (h0)
set_option maxRecDepth 4000 in
theorem b_165_41 {mc ms : Nat} {X : Option (Nat × (Nat → Int32))} {T : aj_Tt} {Q : aj_Q} {J : aj_J} (hJ : aj_Cl 10 c_165 (some .int) false mc ms X T Q J) {w0 : Option Value} {w1 : Option Value} {s0 : Int32} {s1 : Int32} {s2 : Int32} {Z : aj_Z} {I : aj_I} {G : aj_G} {C : Nat × Nat} (h0 : T 0 0 163 [.int s1, .int s0] Z I G (fun r Z1 I1 G1 => J 44 [w0, w1] (r.toList ++ [.int s2]) Z1 I1 G1 C)) : J 41 [w0, w1] [.int s0, .int s1, .int s2] Z I G C := by
  exact s_S2 hJ lm_10_79 d_165_41 (Nat.le_of_ble_eq_true rfl) (h0)
set_option maxRecDepth 4000 in
theorem b_165_44 {mc ms : Nat} {X : Option (Nat × (Nat → Int32))} {T : aj_Tt} {Q : aj_Q} {J : aj_J} (hJ : aj_Cl 10 c_165 (some .int) false mc ms X T Q J) {w0 : Option Value} {w1 : Option Value} {s0 : Int32} {s1 : Int32} {Z : aj_Z} {I : aj_I} {G : aj_G} {C : Nat × Nat} (h0 : Q (some (.int (s1 + s0))) Z I G) : J 44 [w0, w1] [.int s0, .int s1] Z I G C := by
  refine s_iadd hJ d_165_44 ?_
  exact s_iret hJ d_165_45 rfl rfl (h0)
-- ReelOfBoxes$Writer.moovSize()I : method 166
theorem d_166_0 : decode c_166 0 = .ok (.bipush (8), 2) := by decide +kernel
theorem d_166_2 : decode c_166 2 = .ok (.istore_n 1, 1) := by decide +kernel
theorem d_166_3 : decode c_166 3 = .ok (.iconst (0), 1) := by decide +kernel
theorem d_166_4 : decode c_166 4 = .ok (.istore_n 2, 1) := by decide +kernel
theorem d_166_5 : decode c_166 5 = .ok (.iload_n 2, 1) := by decide +kernel
theorem d_166_6 : decode c_166 6 = .ok (.iconst (3), 1) := by decide +kernel
theorem d_166_7 : decode c_166 7 = .ok (.if_icmp .ge (33), 3) := by decide +kernel
theorem d_166_10 : decode c_166 10 = .ok (.aload_n 0, 1) := by decide +kernel
theorem d_166_11 : decode c_166 11 = .ok (.getfield 26, 3) := by decide +kernel
theorem d_166_14 : decode c_166 14 = .ok (.iload_n 2, 1) := by decide +kernel
theorem d_166_15 : decode c_166 15 = .ok (.invokevirtual 98, 3) := by decide +kernel
theorem d_166_18 : decode c_166 18 = .ok (.astore_n 3, 1) := by decide +kernel
theorem d_166_19 : decode c_166 19 = .ok (.aload_n 3, 1) := by decide +kernel
theorem d_166_20 : decode c_166 20 = .ok (.ifnull (14), 3) := by decide +kernel
theorem d_166_23 : decode c_166 23 = .ok (.iload_n 1, 1) := by decide +kernel
theorem d_166_24 : decode c_166 24 = .ok (.bipush (8), 2) := by decide +kernel
theorem d_166_26 : decode c_166 26 = .ok (.aload_n 0, 1) := by decide +kernel
theorem d_166_27 : decode c_166 27 = .ok (.aload_n 3, 1) := by decide +kernel
theorem d_166_28 : decode c_166 28 = .ok (.invokevirtual 104, 3) := by decide +kernel
theorem d_166_31 : decode c_166 31 = .ok (.iadd, 1) := by decide +kernel
theorem d_166_32 : decode c_166 32 = .ok (.iadd, 1) := by decide +kernel
theorem d_166_33 : decode c_166 33 = .ok (.istore_n 1, 1) := by decide +kernel
theorem d_166_34 : decode c_166 34 = .ok (.iinc 2 (1), 3) := by decide +kernel
theorem d_166_37 : decode c_166 37 = .ok (.goto (-32), 3) := by decide +kernel
theorem d_166_40 : decode c_166 40 = .ok (.iload_n 1, 1) := by decide +kernel
theorem d_166_41 : decode c_166 41 = .ok (.ireturn, 1) := by decide +kernel
set_option maxRecDepth 4000 in
theorem b_166_0 {mc ms : Nat} {X : Option (Nat × (Nat → Int32))} {T : aj_Tt} {Q : aj_Q} {J : aj_J} (hJ : aj_Cl 10 c_166 (some .int) false mc ms X T Q J) {o0 : Nat} {Z : aj_Z} {I : aj_I} {G : aj_G} {C : Nat × Nat} (h0 : J 5 [some (.ref o0), some (.int 8), some (.int 0), none] [] Z I G C) : J 0 [some (.ref o0), none, none, none] [] Z I G C := by
  refine s_bipush (v := 8) hJ d_166_0 (by decide) ?_
  refine s_istore_n hJ d_166_2 (Nat.le_of_ble_eq_true rfl) ?_
  refine s_iconst_0 hJ d_166_3 ?_
  refine s_istore_n hJ d_166_4 (Nat.le_of_ble_eq_true rfl) ?_
  exact h0
set_option maxRecDepth 4000 in
theorem b_166_5 {mc ms : Nat} {X : Option (Nat × (Nat → Int32))} {T : aj_Tt} {Q : aj_Q} {J : aj_J} (hJ : aj_Cl 10 c_166 (some .int) false mc ms X T Q J) {o0 : Nat} {x1 : Int32} {x2 : Int32} {w3 : Option Value} {q0 : Nat} {Z : aj_Z} {I : aj_I} {G : aj_G} {C : Nat × Nat} (h0 : 3 ≤ x2 → Q (some (.int x1)) Z I G) (k0 : Z.2.1 o0 = some (.inl 10)) (r0 : Z.2.2 o0 0 = .ref q0) (k1 : Z.2.1 q0 = some (.inl 6)) (h1 : ¬ 3 ≤ x2 → T 0 0 112 [.ref q0, .int x2] Z I G (fun r Z1 I1 G1 => J 18 [some (.ref o0), some (.int x1), some (.int x2), w3] (r.toList ++ []) Z1 I1 G1 C)) : J 5 [some (.ref o0), some (.int x1), some (.int x2), w3] [] Z I G C := by
  refine s_iload_n hJ d_166_5 rfl ?_
  refine s_iconst_3 hJ d_166_6 ?_
  refine s_icmp_ge (tgt := 40) hJ d_166_7 rfl (fun c0 => ?_) (fun c0 => ?_)
  · skip
    refine s_iload_n hJ d_166_40 rfl ?_
    exact s_iret hJ d_166_41 rfl rfl (h0 c0)
  · skip
    refine s_aload_n hJ d_166_10 rfl ?_
    refine s_getr hJ lf_10_26 rfl d_166_11 k0 r0 ?_
    refine s_iload_n hJ d_166_14 rfl ?_
    exact s_V1 hJ lm_10_98 d_166_15 (Nat.le_of_ble_eq_true rfl) k1 (h1 c0)
set_option maxRecDepth 4000 in
theorem b_166_18 {mc ms : Nat} {X : Option (Nat × (Nat → Int32))} {T : aj_Tt} {Q : aj_Q} {J : aj_J} (hJ : aj_Cl 10 c_166 (some .int) false mc ms X T Q J) {o0 : Nat} {x1 : Int32} {x2 : Int32} {w3 : Option Value} {s0 : Nat} {Z : aj_Z} {I : aj_I} {G : aj_G} {C : Nat × Nat} (k0 : Z.2.1 o0 = some (.inl 10)) (h0 : T 0 0 165 [.ref o0, .ref s0] Z I G (fun r Z1 I1 G1 => J 31 [some (.ref o0), some (.int x1), some (.int x2), some (.ref s0)] (r.toList ++ [.int 8, .int x1]) Z1 I1 G1 C)) : J 18 [some (.ref o0), some (.int x1), some (.int x2), w3] [.ref s0] Z I G C := by
  refine s_astore_n hJ d_166_18 (Nat.le_of_ble_eq_true rfl) ?_
  refine s_aload_n hJ d_166_19 rfl ?_
  refine s_ifnull hJ d_166_20 ?_
  refine s_iload_n hJ d_166_23 rfl ?_
  refine s_bipush (v := 8) hJ d_166_24 (by decide) ?_
  refine s_aload_n hJ d_166_26 rfl ?_
  refine s_aload_n hJ d_166_27 rfl ?_
  exact s_V1 hJ lm_10_104 d_166_28 (Nat.le_of_ble_eq_true rfl) k0 (h0)
set_option maxRecDepth 4000 in
theorem b_166_18N {mc ms : Nat} {X : Option (Nat × (Nat → Int32))} {T : aj_Tt} {Q : aj_Q} {J : aj_J} (hJ : aj_Cl 10 c_166 (some .int) false mc ms X T Q J) {o0 : Nat} {x1 : Int32} {x2 : Int32} {w3 : Option Value} {Z : aj_Z} {I : aj_I} {G : aj_G} {C : Nat × Nat} (h0 : J 5 [some (.ref o0), some (.int x1), some (.int (x2 + 1)), some (.null)] [] Z I G C) : J 18 [some (.ref o0), some (.int x1), some (.int x2), w3] [.null] Z I G C := by
  refine s_astore_nN hJ d_166_18 (Nat.le_of_ble_eq_true rfl) ?_
  refine s_aload_nN hJ d_166_19 rfl ?_
  refine s_ifnullN (tgt := 34) hJ d_166_20 rfl ?_
  refine s_iinc (v := 1) hJ d_166_34 rfl (by decide) ?_
  refine s_goto (tgt := 5) hJ d_166_37 rfl ?_
  exact h0
set_option maxRecDepth 4000 in
theorem b_166_31 {mc ms : Nat} {X : Option (Nat × (Nat → Int32))} {T : aj_Tt} {Q : aj_Q} {J : aj_J} (hJ : aj_Cl 10 c_166 (some .int) false mc ms X T Q J) {o0 : Nat} {w1 : Option Value} {x2 : Int32} {w3 : Option Value} {s0 : Int32} {s1 : Int32} {s2 : Int32} {Z : aj_Z} {I : aj_I} {G : aj_G} {C : Nat × Nat} (h0 : J 5 [some (.ref o0), some (.int (s2 + (s1 + s0))), some (.int (x2 + 1)), w3] [] Z I G C) : J 31 [some (.ref o0), w1, some (.int x2), w3] [.int s0, .int s1, .int s2] Z I G C := by
  refine s_iadd hJ d_166_31 ?_
  refine s_iadd hJ d_166_32 ?_
  refine s_istore_n hJ d_166_33 (Nat.le_of_ble_eq_true rfl) ?_
  refine s_iinc (v := 1) hJ d_166_34 rfl (by decide) ?_
  refine s_goto (tgt := 5) hJ d_166_37 rfl ?_
  exact h0
