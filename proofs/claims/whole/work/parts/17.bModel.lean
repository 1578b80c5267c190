/-! decode rows and block rows, by a program -/
-- ReelOfBoxesModel.isTooMany()Z : method 44
theorem d_44_0 : decode c_44 0 = .ok (.aload_n 0, 1) := by decide +kernel
theorem d_44_1 : decode c_44 1 = .ok (.getfield 152, 3) := by decide +kernel
theorem d_44_4 : decode c_44 4 = .ok (.ifCond .ne (43), 3) := by decide +kernel
theorem d_44_7 : decode c_44 7 = .ok (.aload_n 0, 1) := by decide +kernel
theorem d_44_8 : decode c_44 8 = .ok (.getfield 143, 3) := by decide +kernel
theorem d_44_11 : decode c_44 11 = .ok (.ldc 118, 2) := by decide +kernel
theorem d_44_13 : decode c_44 13 = .ok (.if_icmp .ne (11), 3) := by decide +kernel
theorem d_44_16 : decode c_44 16 = .ok (.aload_n 0, 1) := by decide +kernel
theorem d_44_17 : decode c_44 17 = .ok (.getfield 155, 3) := by decide +kernel
theorem d_44_20 : decode c_44 20 = .ok (.iconst (1), 1) := by decide +kernel
theorem d_44_21 : decode c_44 21 = .ok (.if_icmp .eq (20), 3) := by decide +kernel
theorem d_44_24 : decode c_44 24 = .ok (.aload_n 0, 1) := by decide +kernel
theorem d_44_25 : decode c_44 25 = .ok (.getfield 143, 3) := by decide +kernel
theorem d_44_28 : decode c_44 28 = .ok (.ldc 135, 2) := by decide +kernel
theorem d_44_30 : decode c_44 30 = .ok (.if_icmp .ne (15), 3) := by decide +kernel
theorem d_44_33 : decode c_44 33 = .ok (.aload_n 0, 1) := by decide +kernel
theorem d_44_34 : decode c_44 34 = .ok (.getfield 158, 3) := by decide +kernel
theorem d_44_37 : decode c_44 37 = .ok (.iconst (1), 1) := by decide +kernel
theorem d_44_38 : decode c_44 38 = .ok (.if_icmp .ne (7), 3) := by decide +kernel
theorem d_44_41 : decode c_44 41 = .ok (.iconst (1), 1) := by decide +kernel
theorem d_44_42 : decode c_44 42 = .ok (.goto (4), 3) := by decide +kernel
theorem d_44_45 : decode c_44 45 = .ok (.iconst (0), 1) := by decide +kernel
theorem d_44_46 : decode c_44 46 = .ok (.ireturn, 1) := by decide +kernel
theorem d_44_47 : decode c_44 47 = .ok (.aload_n 0, 1) := by decide +kernel
theorem d_44_48 : decode c_44 48 = .ok (.getfield 152, 3) := by decide +kernel
theorem d_44_51 : decode c_44 51 = .ok (.iconst (1), 1) := by decide +kernel
theorem d_44_52 : decode c_44 52 = .ok (.if_icmp .ne (26), 3) := by decide +kernel
theorem d_44_55 : decode c_44 55 = .ok (.aload_n 0, 1) := by decide +kernel
theorem d_44_56 : decode c_44 56 = .ok (.getfield 143, 3) := by decide +kernel
theorem d_44_59 : decode c_44 59 = .ok (.ldc 119, 2) := by decide +kernel
theorem d_44_61 : decode c_44 61 = .ok (.if_icmp .ne (15), 3) := by decide +kernel
theorem d_44_64 : decode c_44 64 = .ok (.aload_n 0, 1) := by decide +kernel
theorem d_44_65 : decode c_44 65 = .ok (.getfield 161, 3) := by decide +kernel
theorem d_44_68 : decode c_44 68 = .ok (.iconst (3), 1) := by decide +kernel
theorem d_44_69 : decode c_44 69 = .ok (.if_icmp .ne (7), 3) := by decide +kernel
theorem d_44_72 : decode c_44 72 = .ok (.iconst (1), 1) := by decide +kernel
theorem d_44_73 : decode c_44 73 = .ok (.goto (4), 3) := by decide +kernel
theorem d_44_76 : decode c_44 76 = .ok (.iconst (0), 1) := by decide +kernel
theorem d_44_77 : decode c_44 77 = .ok (.ireturn, 1) := by decide +kernel
theorem d_44_78 : decode c_44 78 = .ok (.aload_n 0, 1) := by decide +kernel
theorem d_44_79 : decode c_44 79 = .ok (.getfield 161, 3) := by decide +kernel
theorem d_44_82 : decode c_44 82 = .ok (.iconst (1), 1) := by decide +kernel
theorem d_44_83 : decode c_44 83 = .ok (.isub, 1) := by decide +kernel
theorem d_44_84 : decode c_44 84 = .ok (.istore_n 1, 1) := by decide +kernel
theorem d_44_85 : decode c_44 85 = .ok (.aload_n 0, 1) := by decide +kernel
theorem d_44_86 : decode c_44 86 = .ok (.getfield 152, 3) := by decide +kernel
theorem d_44_89 : decode c_44 89 = .ok (.iconst (2), 1) := by decide +kernel
theorem d_44_90 : decode c_44 90 = .ok (.if_icmp .ne (27), 3) := by decide +kernel
theorem d_44_93 : decode c_44 93 = .ok (.aload_n 0, 1) := by decide +kernel
theorem d_44_94 : decode c_44 94 = .ok (.getfield 143, 3) := by decide +kernel
theorem d_44_97 : decode c_44 97 = .ok (.ldc 120, 2) := by decide +kernel
theorem d_44_99 : decode c_44 99 = .ok (.if_icmp .ne (16), 3) := by decide +kernel
theorem d_44_102 : decode c_44 102 = .ok (.aload_n 0, 1) := by decide +kernel
theorem d_44_103 : decode c_44 103 = .ok (.getfield 36, 3) := by decide +kernel
theorem d_44_106 : decode c_44 106 = .ok (.iload_n 1, 1) := by decide +kernel
theorem d_44_107 : decode c_44 107 = .ok (.iaload, 1) := by decide +kernel
theorem d_44_108 : decode c_44 108 = .ok (.ifCond .lt (7), 3) := by decide +kernel
theorem d_44_111 : decode c_44 111 = .ok (.iconst (1), 1) := by decide +kernel
theorem d_44_112 : decode c_44 112 = .ok (.goto (4), 3) := by decide +kernel
theorem d_44_115 : decode c_44 115 = .ok (.iconst (0), 1) := by decide +kernel
theorem d_44_116 : decode c_44 116 = .ok (.ireturn, 1) := by decide +kernel
theorem d_44_117 : decode c_44 117 = .ok (.aload_n 0, 1) := by decide +kernel
theorem d_44_118 : decode c_44 118 = .ok (.getfield 143, 3) := by decide +kernel
theorem d_44_121 : decode c_44 121 = .ok (.invokestatic 164, 3) := by decide +kernel
theorem d_44_124 : decode c_44 124 = .ok (.istore_n 2, 1) := by decide +kernel
theorem d_44_125 : decode c_44 125 = .ok (.iload_n 2, 1) := by decide +kernel
theorem d_44_126 : decode c_44 126 = .ok (.ifCond .lt (20), 3) := by decide +kernel
theorem d_44_129 : decode c_44 129 = .ok (.aload_n 0, 1) := by decide +kernel
theorem d_44_130 : decode c_44 130 = .ok (.getfield 39, 3) := by decide +kernel
theorem d_44_133 : decode c_44 133 = .ok (.iconst (4), 1) := by decide +kernel
theorem d_44_134 : decode c_44 134 = .ok (.iload_n 1, 1) := by decide +kernel
theorem d_44_135 : decode c_44 135 = .ok (.imul, 1) := by decide +kernel
theorem d_44_136 : decode c_44 136 = .ok (.iload_n 2, 1) := by decide +kernel
theorem d_44_137 : decode c_44 137 = .ok (.iadd, 1) := by decide +kernel
theorem d_44_138 : decode c_44 138 = .ok (.iaload, 1) := by decide +kernel
theorem d_44_139 : decode c_44 139 = .ok (.ifCond .lt (7), 3) := by decide +kernel
theorem d_44_142 : decode c_44 142 = .ok (.iconst (1), 1) := by decide +kernel
theorem d_44_143 : decode c_44 143 = .ok (.goto (4), 3) := by decide +kernel
theorem d_44_146 : decode c_44 146 = .ok (.iconst (0), 1) := by decide +kernel
theorem d_44_147 : decode c_44 147 = .ok (.ireturn, 1) := by decide +kernel
set_option maxRecDepth 4000 in
theorem b_44_0 {mc ms : Nat} {X : Option (Nat × (Nat → Int32))} {T : aj_Tt} {Q : aj_Q} {J : aj_J} (hJ : aj_Cl 1 c_44 (some .boolean) false mc ms X T Q J) {o0 : Nat} {q0 : Nat} {nk1 : Nat} {Z : aj_Z} {I : aj_I} {G : aj_G} {C : Nat × Nat} (k0 : Z.2.1 o0 = some (.inl 1)) (h0 : ¬ (I o0 8) = 0 → ¬ (I o0 8) = 1 → ¬ (I o0 8) = 2 → T 0 0 43 [.int (I o0 21)] Z I G (fun r Z1 I1 G1 => J 124 [some (.ref o0), some (.int ((I o0 15) - 1)), none] (r.toList ++ []) Z1 I1 G1 C)) (h1 : ¬ (I o0 8) = 0 → ¬ (I o0 8) = 1 → (I o0 8) = 2 → ¬ (I o0 21) = 1937007212 → Q (some (.int 0)) Z I G) (r0 : Z.2.2 o0 16 = .ref q0) (k1 : Z.2.1 q0 = some (.inr (0, nk1))) (h2 : ¬ (I o0 8) = 0 → ¬ (I o0 8) = 1 → (I o0 8) = 2 → (I o0 21) = 1937007212 → vp_in ((I o0 15) - 1) nk1) (h3 : ¬ (I o0 8) = 0 → ¬ (I o0 8) = 1 → (I o0 8) = 2 → (I o0 21) = 1937007212 → (I q0 (Int32.toNatClampNeg ((I o0 15) - 1))) < 0 → Q (some (.int 0)) Z I G) (h4 : ¬ (I o0 8) = 0 → ¬ (I o0 8) = 1 → (I o0 8) = 2 → (I o0 21) = 1937007212 → ¬ (I q0 (Int32.toNatClampNeg ((I o0 15) - 1))) < 0 → Q (some (.int 1)) Z I G) (h5 : ¬ (I o0 8) = 0 → (I o0 8) = 1 → ¬ (I o0 21) = 1953653099 → Q (some (.int 0)) Z I G) (h6 : ¬ (I o0 8) = 0 → (I o0 8) = 1 → (I o0 21) = 1953653099 → ¬ (I o0 15) = 3 → Q (some (.int 0)) Z I G) (h7 : ¬ (I o0 8) = 0 → (I o0 8) = 1 → (I o0 21) = 1953653099 → (I o0 15) = 3 → Q (some (.int 1)) Z I G) (h8 : (I o0 8) = 0 → ¬ (I o0 21) = 1836019574 → J 24 [some (.ref o0), none, none] [] Z I G C) (h9 : (I o0 8) = 0 → (I o0 21) = 1836019574 → (I o0 11) = 1 → Q (some (.int 1)) Z I G) (h10 : (I o0 8) = 0 → (I o0 21) = 1836019574 → ¬ (I o0 11) = 1 → J 24 [some (.ref o0), none, none] [] Z I G C) : J 0 [some (.ref o0), none, none] [] Z I G C := by
  refine s_aload_n hJ d_44_0 rfl ?_
  refine s_geti hJ lf_1_152 rfl d_44_1 k0 ?_
  refine s_if_ne (tgt := 47) hJ d_44_4 rfl (fun c0 => ?_) (fun c0 => ?_)
  · skip
    refine s_aload_n hJ d_44_47 rfl ?_
    refine s_geti hJ lf_1_152 rfl d_44_48 k0 ?_
    refine s_iconst_1 hJ d_44_51 ?_
    refine s_icmp_ne (tgt := 78) hJ d_44_52 rfl (fun c1 => ?_) (fun c1 => ?_)
    · skip
      refine s_aload_n hJ d_44_78 rfl ?_
      refine s_geti hJ lf_1_161 rfl d_44_79 k0 ?_
      refine s_iconst_1 hJ d_44_82 ?_
      refine s_isub hJ d_44_83 ?_
      refine s_istore_n hJ d_44_84 (Nat.le_of_ble_eq_true rfl) ?_
      refine s_aload_n hJ d_44_85 rfl ?_
      refine s_geti hJ lf_1_152 rfl d_44_86 k0 ?_
      refine s_iconst_2 hJ d_44_89 ?_
      refine s_icmp_ne (tgt := 117) hJ d_44_90 rfl (fun c2 => ?_) (fun c2 => ?_)
      · skip
        refine s_aload_n hJ d_44_117 rfl ?_
        refine s_geti hJ lf_1_143 rfl d_44_118 k0 ?_
        exact s_S1 hJ lm_1_164 d_44_121 (Nat.le_of_ble_eq_true rfl) (h0 c0 c1 c2)
      · skip
        refine s_aload_n hJ d_44_93 rfl ?_
        refine s_geti hJ lf_1_143 rfl d_44_94 k0 ?_
        refine s_ldc hJ lc_1_120 d_44_97 ?_
        refine s_icmp_ne (tgt := 115) hJ d_44_99 rfl (fun c3 => ?_) (fun c3 => ?_)
        · skip
          refine s_iconst_0 hJ d_44_115 ?_
          exact s_iret hJ d_44_116 rfl rfl (h1 c0 c1 c2 c3)
        · skip
          refine s_aload_n hJ d_44_102 rfl ?_
          refine s_getr hJ lf_1_36 rfl d_44_103 k0 r0 ?_
          refine s_iload_n hJ d_44_106 rfl ?_
          refine s_iald hJ d_44_107 k1 (h2 c0 c1 c2 c3) ?_
          refine s_if_lt (tgt := 115) hJ d_44_108 rfl (fun c4 => ?_) (fun c4 => ?_)
          · skip
            refine s_iconst_0 hJ d_44_115 ?_
            exact s_iret hJ d_44_116 rfl rfl (h3 c0 c1 c2 c3 c4)
          · skip
            refine s_iconst_1 hJ d_44_111 ?_
            refine s_goto (tgt := 116) hJ d_44_112 rfl ?_
            exact s_iret hJ d_44_116 rfl rfl (h4 c0 c1 c2 c3 c4)
    · skip
      refine s_aload_n hJ d_44_55 rfl ?_
      refine s_geti hJ lf_1_143 rfl d_44_56 k0 ?_
      refine s_ldc hJ lc_1_119 d_44_59 ?_
      refine s_icmp_ne (tgt := 76) hJ d_44_61 rfl (fun c2 => ?_) (fun c2 => ?_)
      · skip
        refine s_iconst_0 hJ d_44_76 ?_
        exact s_iret hJ d_44_77 rfl rfl (h5 c0 c1 c2)
      · skip
        refine s_aload_n hJ d_44_64 rfl ?_
        refine s_geti hJ lf_1_161 rfl d_44_65 k0 ?_
        refine s_iconst_3 hJ d_44_68 ?_
        refine s_icmp_ne (tgt := 76) hJ d_44_69 rfl (fun c3 => ?_) (fun c3 => ?_)
        · skip
          refine s_iconst_0 hJ d_44_76 ?_
          exact s_iret hJ d_44_77 rfl rfl (h6 c0 c1 c2 c3)
        · skip
          refine s_iconst_1 hJ d_44_72 ?_
          refine s_goto (tgt := 77) hJ d_44_73 rfl ?_
          exact s_iret hJ d_44_77 rfl rfl (h7 c0 c1 c2 c3)
  · skip
    refine s_aload_n hJ d_44_7 rfl ?_
    refine s_geti hJ lf_1_143 rfl d_44_8 k0 ?_
    refine s_ldc hJ lc_1_118 d_44_11 ?_
    refine s_icmp_ne (tgt := 24) hJ d_44_13 rfl (fun c1 => ?_) (fun c1 => ?_)
    · skip
      exact h8 c0 c1
    · skip
      refine s_aload_n hJ d_44_16 rfl ?_
      refine s_geti hJ lf_1_155 rfl d_44_17 k0 ?_
      refine s_iconst_1 hJ d_44_20 ?_
      refine s_icmp_eq (tgt := 41) hJ d_44_21 rfl (fun c2 => ?_) (fun c2 => ?_)
      · skip
        refine s_iconst_1 hJ d_44_41 ?_
        refine s_goto (tgt := 46) hJ d_44_42 rfl ?_
        exact s_iret hJ d_44_46 rfl rfl (h9 c0 c1 c2)
      · skip
        exact h10 c0 c1 c2
set_option maxRecDepth 4000 in
theorem b_44_24 {mc ms : Nat} {X : Option (Nat × (Nat → Int32))} {T : aj_Tt} {Q : aj_Q} {J : aj_J} (hJ : aj_Cl 1 c_44 (some .boolean) false mc ms X T Q J) {o0 : Nat} {w1 : Option Value} {w2 : Option Value} {Z : aj_Z} {I : aj_I} {G : aj_G} {C : Nat × Nat} (k0 : Z.2.1 o0 = some (.inl 1)) (h0 : ¬ (I o0 21) = 1835295092 → Q (some (.int 0)) Z I G) (h1 : (I o0 21) = 1835295092 → ¬ (I o0 12) = 1 → Q (some (.int 0)) Z I G) (h2 : (I o0 21) = 1835295092 → (I o0 12) = 1 → Q (some (.int 1)) Z I G) : J 24 [some (.ref o0), w1, w2] [] Z I G C := by
  refine s_aload_n hJ d_44_24 rfl ?_
  refine s_geti hJ lf_1_143 rfl d_44_25 k0 ?_
  refine s_ldc hJ lc_1_135 d_44_28 ?_
  refine s_icmp_ne (tgt := 45) hJ d_44_30 rfl (fun c0 => ?_) (fun c0 => ?_)
  · skip
    refine s_iconst_0 hJ d_44_45 ?_
    exact s_iret hJ d_44_46 rfl rfl (h0 c0)
  · skip
    refine s_aload_n hJ d_44_33 rfl ?_
    refine s_geti hJ lf_1_158 rfl d_44_34 k0 ?_
    refine s_iconst_1 hJ d_44_37 ?_
    refine s_icmp_ne (tgt := 45) hJ d_44_38 rfl (fun c1 => ?_) (fun c1 => ?_)
    · skip
      refine s_iconst_0 hJ d_44_45 ?_
      exact s_iret hJ d_44_46 rfl rfl (h1 c0 c1)
    · skip
      refine s_iconst_1 hJ d_44_41 ?_
      refine s_goto (tgt := 46) hJ d_44_42 rfl ?_
      exact s_iret hJ d_44_46 rfl rfl (h2 c0 c1)
set_option maxRecDepth 4000 in
theorem b_44_124 {mc ms : Nat} {X : Option (Nat × (Nat → Int32))} {T : aj_Tt} {Q : aj_Q} {J : aj_J} (hJ : aj_Cl 1 c_44 (some .boolean) false mc ms X T Q J) {o0 : Nat} {x1 : Int32} {w2 : Option Value} {s0 : Int32} {q0 : Nat} {nk1 : Nat} {Z : aj_Z} {I : aj_I} {G : aj_G} {C : Nat × Nat} (h0 : s0 < 0 → Q (some (.int 0)) Z I G) (k0 : Z.2.1 o0 = some (.inl 1)) (r0 : Z.2.2 o0 17 = .ref q0) (k1 : Z.2.1 q0 = some (.inr (0, nk1))) (h1 : ¬ s0 < 0 → vp_in ((4 * x1) + s0) nk1) (h2 : ¬ s0 < 0 → (I q0 (Int32.toNatClampNeg ((4 * x1) + s0))) < 0 → Q (some (.int 0)) Z I G) (h3 : ¬ s0 < 0 → ¬ (I q0 (Int32.toNatClampNeg ((4 * x1) + s0))) < 0 → Q (some (.int 1)) Z I G) : J 124 [some (.ref o0), some (.int x1), w2] [.int s0] Z I G C := by
  refine s_istore_n hJ d_44_124 (Nat.le_of_ble_eq_true rfl) ?_
  refine s_iload_n hJ d_44_125 rfl ?_
  refine s_if_lt (tgt := 146) hJ d_44_126 rfl (fun c0 => ?_) (fun c0 => ?_)
  · skip
    refine s_iconst_0 hJ d_44_146 ?_
    exact s_iret hJ d_44_147 rfl rfl (h0 c0)
  · skip
    refine s_aload_n hJ d_44_129 rfl ?_
    refine s_getr hJ lf_1_39 rfl d_44_130 k0 r0 ?_
    refine s_iconst_4 hJ d_44_133 ?_
    refine s_iload_n hJ d_44_134 rfl ?_
    refine s_imul hJ d_44_135 ?_
    refine s_iload_n hJ d_44_136 rfl ?_
    refine s_iadd hJ d_44_137 ?_
    refine s_iald hJ d_44_138 k1 (h1 c0) ?_
    refine s_if_lt (tgt := 146) hJ d_44_139 rfl (fun c1 => ?_) (fun c1 => ?_)
    · skip
      refine s_iconst_0 hJ d_44_146 ?_
      exact s_iret hJ d_44_147 rfl rfl (h2 c0 c1)
    · skip
      refine s_iconst_1 hJ d_44_142 ?_
      refine s_goto (tgt := 147) hJ d_44_143 rfl ?_
      exact s_iret hJ d_44_147 rfl rfl (h3 c0 c1)
-- ReelOfBoxesModel.isGoneInto()Z : method 45
theorem d_45_0 : decode c_45 0 = .ok (.aload_n 0, 1) := by decide +kernel
theorem d_45_1 : decode c_45 1 = .ok (.getfield 143, 3) := by decide +kernel
theorem d_45_4 : decode c_45 4 = .ok (.aload_n 0, 1) := by decide +kernel
theorem d_45_5 : decode c_45 5 = .ok (.getfield 152, 3) := by decide +kernel
theorem d_45_8 : decode c_45 8 = .ok (.ifCond .ne (8), 3) := by decide +kernel
theorem d_45_11 : decode c_45 11 = .ok (.ldc 118, 2) := by decide +kernel
theorem d_45_13 : decode c_45 13 = .ok (.goto (18), 3) := by decide +kernel
theorem d_45_16 : decode c_45 16 = .ok (.aload_n 0, 1) := by decide +kernel
theorem d_45_17 : decode c_45 17 = .ok (.getfield 152, 3) := by decide +kernel
theorem d_45_20 : decode c_45 20 = .ok (.iconst (1), 1) := by decide +kernel
theorem d_45_21 : decode c_45 21 = .ok (.if_icmp .ne (8), 3) := by decide +kernel
theorem d_45_24 : decode c_45 24 = .ok (.ldc 119, 2) := by decide +kernel
theorem d_45_26 : decode c_45 26 = .ok (.goto (5), 3) := by decide +kernel
theorem d_45_29 : decode c_45 29 = .ok (.ldc 120, 2) := by decide +kernel
theorem d_45_31 : decode c_45 31 = .ok (.if_icmp .ne (15), 3) := by decide +kernel
theorem d_45_34 : decode c_45 34 = .ok (.aload_n 0, 1) := by decide +kernel
theorem d_45_35 : decode c_45 35 = .ok (.getfield 152, 3) := by decide +kernel
theorem d_45_38 : decode c_45 38 = .ok (.iconst (3), 1) := by decide +kernel
theorem d_45_39 : decode c_45 39 = .ok (.if_icmp .ge (7), 3) := by decide +kernel
theorem d_45_42 : decode c_45 42 = .ok (.iconst (1), 1) := by decide +kernel
theorem d_45_43 : decode c_45 43 = .ok (.goto (4), 3) := by decide +kernel
theorem d_45_46 : decode c_45 46 = .ok (.iconst (0), 1) := by decide +kernel
theorem d_45_47 : decode c_45 47 = .ok (.ireturn, 1) := by decide +kernel
set_option maxRecDepth 4000 in
theorem b_45_0 {mc ms : Nat} {X : Option (Nat × (Nat → Int32))} {T : aj_Tt} {Q : aj_Q} {J : aj_J} (hJ : aj_Cl 1 c_45 (some .boolean) false mc ms X T Q J) {o0 : Nat} {Z : aj_Z} {I : aj_I} {G : aj_G} {C : Nat × Nat} (k0 : Z.2.1 o0 = some (.inl 1)) (h0 : ¬ (I o0 8) = 0 → ¬ (I o0 8) = 1 → J 31 [some (.ref o0)] [.int 1937007212, .int (I o0 21)] Z I G C) (h1 : ¬ (I o0 8) = 0 → (I o0 8) = 1 → J 31 [some (.ref o0)] [.int 1953653099, .int (I o0 21)] Z I G C) (h2 : (I o0 8) = 0 → J 31 [some (.ref o0)] [.int 1836019574, .int (I o0 21)] Z I G C) : J 0 [some (.ref o0)] [] Z I G C := by
  refine s_aload_n hJ d_45_0 rfl ?_
  refine s_geti hJ lf_1_143 rfl d_45_1 k0 ?_
  refine s_aload_n hJ d_45_4 rfl ?_
  refine s_geti hJ lf_1_152 rfl d_45_5 k0 ?_
  refine s_if_ne (tgt := 16) hJ d_45_8 rfl (fun c0 => ?_) (fun c0 => ?_)
  · skip
    refine s_aload_n hJ d_45_16 rfl ?_
    refine s_geti hJ lf_1_152 rfl d_45_17 k0 ?_
    refine s_iconst_1 hJ d_45_20 ?_
    refine s_icmp_ne (tgt := 29) hJ d_45_21 rfl (fun c1 => ?_) (fun c1 => ?_)
    · skip
      refine s_ldc hJ lc_1_120 d_45_29 ?_
      exact h0 c0 c1
    · skip
      refine s_ldc hJ lc_1_119 d_45_24 ?_
      refine s_goto (tgt := 31) hJ d_45_26 rfl ?_
      exact h1 c0 c1
  · skip
    refine s_ldc hJ lc_1_118 d_45_11 ?_
    refine s_goto (tgt := 31) hJ d_45_13 rfl ?_
    exact h2 c0
set_option maxRecDepth 4000 in
theorem b_45_31 {mc ms : Nat} {X : Option (Nat × (Nat → Int32))} {T : aj_Tt} {Q : aj_Q} {J : aj_J} (hJ : aj_Cl 1 c_45 (some .boolean) false mc ms X T Q J) {o0 : Nat} {s0 : Int32} {s1 : Int32} {Z : aj_Z} {I : aj_I} {G : aj_G} {C : Nat × Nat} (h0 : ¬ s1 = s0 → Q (some (.int 0)) Z I G) (k0 : Z.2.1 o0 = some (.inl 1)) (h1 : s1 = s0 → 3 ≤ (I o0 8) → Q (some (.int 0)) Z I G) (h2 : s1 = s0 → ¬ 3 ≤ (I o0 8) → Q (some (.int 1)) Z I G) : J 31 [some (.ref o0)] [.int s0, .int s1] Z I G C := by
  refine s_icmp_ne (tgt := 46) hJ d_45_31 rfl (fun c0 => ?_) (fun c0 => ?_)
  · skip
    refine s_iconst_0 hJ d_45_46 ?_
    exact s_iret hJ d_45_47 rfl rfl (h0 c0)
  · skip
    refine s_aload_n hJ d_45_34 rfl ?_
    refine s_geti hJ lf_1_152 rfl d_45_35 k0 ?_
    refine s_iconst_3 hJ d_45_38 ?_
    refine s_icmp_ge (tgt := 46) hJ d_45_39 rfl (fun c1 => ?_) (fun c1 => ?_)
    · skip
      refine s_iconst_0 hJ d_45_46 ?_
      exact s_iret hJ d_45_47 rfl rfl (h1 c0 c1)
    · skip
      refine s_iconst_1 hJ d_45_42 ?_
      refine s_goto (tgt := 47) hJ d_45_43 rfl ?_
      exact s_iret hJ d_45_47 rfl rfl (h2 c0 c1)
-- ReelOfBoxesModel.note(I)V : method 46
theorem d_46_0 : decode c_46 0 = .ok (.aload_n 0, 1) := by decide +kernel
theorem d_46_1 : decode c_46 1 = .ok (.getfield 161, 3) := by decide +kernel
theorem d_46_4 : decode c_46 4 = .ok (.iconst (1), 1) := by decide +kernel
theorem d_46_5 : decode c_46 5 = .ok (.isub, 1) := by decide +kernel
theorem d_46_6 : decode c_46 6 = .ok (.istore_n 2, 1) := by decide +kernel
theorem d_46_7 : decode c_46 7 = .ok (.aload_n 0, 1) := by decide +kernel
theorem d_46_8 : decode c_46 8 = .ok (.getfield 152, 3) := by decide +kernel
theorem d_46_11 : decode c_46 11 = .ok (.ifCond .ne (20), 3) := by decide +kernel
theorem d_46_14 : decode c_46 14 = .ok (.aload_n 0, 1) := by decide +kernel
theorem d_46_15 : decode c_46 15 = .ok (.getfield 143, 3) := by decide +kernel
theorem d_46_18 : decode c_46 18 = .ok (.ldc 118, 2) := by decide +kernel
theorem d_46_20 : decode c_46 20 = .ok (.if_icmp .ne (11), 3) := by decide +kernel
theorem d_46_23 : decode c_46 23 = .ok (.aload_n 0, 1) := by decide +kernel
theorem d_46_24 : decode c_46 24 = .ok (.iconst (1), 1) := by decide +kernel
theorem d_46_25 : decode c_46 25 = .ok (.putfield 155, 3) := by decide +kernel
theorem d_46_28 : decode c_46 28 = .ok (.goto (232), 3) := by decide +kernel
theorem d_46_31 : decode c_46 31 = .ok (.aload_n 0, 1) := by decide +kernel
theorem d_46_32 : decode c_46 32 = .ok (.getfield 152, 3) := by decide +kernel
theorem d_46_35 : decode c_46 35 = .ok (.ifCond .ne (36), 3) := by decide +kernel
theorem d_46_38 : decode c_46 38 = .ok (.aload_n 0, 1) := by decide +kernel
theorem d_46_39 : decode c_46 39 = .ok (.getfield 143, 3) := by decide +kernel
theorem d_46_42 : decode c_46 42 = .ok (.ldc 135, 2) := by decide +kernel
theorem d_46_44 : decode c_46 44 = .ok (.if_icmp .ne (27), 3) := by decide +kernel
theorem d_46_47 : decode c_46 47 = .ok (.aload_n 0, 1) := by decide +kernel
theorem d_46_48 : decode c_46 48 = .ok (.iconst (1), 1) := by decide +kernel
theorem d_46_49 : decode c_46 49 = .ok (.putfield 158, 3) := by decide +kernel
theorem d_46_52 : decode c_46 52 = .ok (.aload_n 0, 1) := by decide +kernel
theorem d_46_53 : decode c_46 53 = .ok (.aload_n 0, 1) := by decide +kernel
theorem d_46_54 : decode c_46 54 = .ok (.getfield 146, 3) := by decide +kernel
theorem d_46_57 : decode c_46 57 = .ok (.putfield 167, 3) := by decide +kernel
theorem d_46_60 : decode c_46 60 = .ok (.aload_n 0, 1) := by decide +kernel
theorem d_46_61 : decode c_46 61 = .ok (.aload_n 0, 1) := by decide +kernel
theorem d_46_62 : decode c_46 62 = .ok (.getfield 149, 3) := by decide +kernel
theorem d_46_65 : decode c_46 65 = .ok (.putfield 170, 3) := by decide +kernel
theorem d_46_68 : decode c_46 68 = .ok (.goto (192), 3) := by decide +kernel
theorem d_46_71 : decode c_46 71 = .ok (.aload_n 0, 1) := by decide +kernel
theorem d_46_72 : decode c_46 72 = .ok (.getfield 152, 3) := by decide +kernel
theorem d_46_75 : decode c_46 75 = .ok (.iconst (1), 1) := by decide +kernel
theorem d_46_76 : decode c_46 76 = .ok (.if_icmp .ne (62), 3) := by decide +kernel
theorem d_46_79 : decode c_46 79 = .ok (.aload_n 0, 1) := by decide +kernel
theorem d_46_80 : decode c_46 80 = .ok (.getfield 143, 3) := by decide +kernel
theorem d_46_83 : decode c_46 83 = .ok (.ldc 119, 2) := by decide +kernel
theorem d_46_85 : decode c_46 85 = .ok (.if_icmp .ne (53), 3) := by decide +kernel
theorem d_46_88 : decode c_46 88 = .ok (.aload_n 0, 1) := by decide +kernel
theorem d_46_89 : decode c_46 89 = .ok (.getfield 36, 3) := by decide +kernel
theorem d_46_92 : decode c_46 92 = .ok (.aload_n 0, 1) := by decide +kernel
theorem d_46_93 : decode c_46 93 = .ok (.getfield 161, 3) := by decide +kernel
theorem d_46_96 : decode c_46 96 = .ok (.iconst (-1), 1) := by decide +kernel
theorem d_46_97 : decode c_46 97 = .ok (.iastore, 1) := by decide +kernel
theorem d_46_98 : decode c_46 98 = .ok (.iconst (0), 1) := by decide +kernel
theorem d_46_99 : decode c_46 99 = .ok (.istore_n 3, 1) := by decide +kernel
theorem d_46_100 : decode c_46 100 = .ok (.iload_n 3, 1) := by decide +kernel
theorem d_46_101 : decode c_46 101 = .ok (.iconst (4), 1) := by decide +kernel
theorem d_46_102 : decode c_46 102 = .ok (.if_icmp .ge (23), 3) := by decide +kernel
theorem d_46_105 : decode c_46 105 = .ok (.aload_n 0, 1) := by decide +kernel
theorem d_46_106 : decode c_46 106 = .ok (.getfield 39, 3) := by decide +kernel
theorem d_46_109 : decode c_46 109 = .ok (.iconst (4), 1) := by decide +kernel
theorem d_46_110 : decode c_46 110 = .ok (.aload_n 0, 1) := by decide +kernel
theorem d_46_111 : decode c_46 111 = .ok (.getfield 161, 3) := by decide +kernel
theorem d_46_114 : decode c_46 114 = .ok (.imul, 1) := by decide +kernel
theorem d_46_115 : decode c_46 115 = .ok (.iload_n 3, 1) := by decide +kernel
theorem d_46_116 : decode c_46 116 = .ok (.iadd, 1) := by decide +kernel
theorem d_46_117 : decode c_46 117 = .ok (.iconst (-1), 1) := by decide +kernel
theorem d_46_118 : decode c_46 118 = .ok (.iastore, 1) := by decide +kernel
theorem d_46_119 : decode c_46 119 = .ok (.iinc 3 (1), 3) := by decide +kernel
theorem d_46_122 : decode c_46 122 = .ok (.goto (-22), 3) := by decide +kernel
theorem d_46_125 : decode c_46 125 = .ok (.aload_n 0, 1) := by decide +kernel
theorem d_46_126 : decode c_46 126 = .ok (.aload_n 0, 1) := by decide +kernel
theorem d_46_127 : decode c_46 127 = .ok (.getfield 161, 3) := by decide +kernel
theorem d_46_130 : decode c_46 130 = .ok (.iconst (1), 1) := by decide +kernel
theorem d_46_131 : decode c_46 131 = .ok (.iadd, 1) := by decide +kernel
theorem d_46_132 : decode c_46 132 = .ok (.putfield 161, 3) := by decide +kernel
theorem d_46_135 : decode c_46 135 = .ok (.goto (125), 3) := by decide +kernel
theorem d_46_138 : decode c_46 138 = .ok (.aload_n 0, 1) := by decide +kernel
theorem d_46_139 : decode c_46 139 = .ok (.getfield 152, 3) := by decide +kernel
theorem d_46_142 : decode c_46 142 = .ok (.iconst (2), 1) := by decide +kernel
theorem d_46_143 : decode c_46 143 = .ok (.if_icmp .ne (22), 3) := by decide +kernel
theorem d_46_146 : decode c_46 146 = .ok (.aload_n 0, 1) := by decide +kernel
theorem d_46_147 : decode c_46 147 = .ok (.getfield 143, 3) := by decide +kernel
theorem d_46_150 : decode c_46 150 = .ok (.ldc 120, 2) := by decide +kernel
theorem d_46_152 : decode c_46 152 = .ok (.if_icmp .ne (13), 3) := by decide +kernel
theorem d_46_155 : decode c_46 155 = .ok (.aload_n 0, 1) := by decide +kernel
theorem d_46_156 : decode c_46 156 = .ok (.getfield 36, 3) := by decide +kernel
theorem d_46_159 : decode c_46 159 = .ok (.iload_n 2, 1) := by decide +kernel
theorem d_46_160 : decode c_46 160 = .ok (.iload_n 1, 1) := by decide +kernel
theorem d_46_161 : decode c_46 161 = .ok (.iastore, 1) := by decide +kernel
theorem d_46_162 : decode c_46 162 = .ok (.goto (98), 3) := by decide +kernel
theorem d_46_165 : decode c_46 165 = .ok (.aload_n 0, 1) := by decide +kernel
theorem d_46_166 : decode c_46 166 = .ok (.getfield 152, 3) := by decide +kernel
theorem d_46_169 : decode c_46 169 = .ok (.iconst (3), 1) := by decide +kernel
theorem d_46_170 : decode c_46 170 = .ok (.if_icmp .ne (90), 3) := by decide +kernel
theorem d_46_173 : decode c_46 173 = .ok (.aload_n 0, 1) := by decide +kernel
theorem d_46_174 : decode c_46 174 = .ok (.getfield 143, 3) := by decide +kernel
theorem d_46_177 : decode c_46 177 = .ok (.invokestatic 164, 3) := by decide +kernel
theorem d_46_180 : decode c_46 180 = .ok (.ifCond .lt (80), 3) := by decide +kernel
theorem d_46_183 : decode c_46 183 = .ok (.iconst (4), 1) := by decide +kernel
theorem d_46_184 : decode c_46 184 = .ok (.iload_n 2, 1) := by decide +kernel
theorem d_46_185 : decode c_46 185 = .ok (.imul, 1) := by decide +kernel
theorem d_46_186 : decode c_46 186 = .ok (.aload_n 0, 1) := by decide +kernel
theorem d_46_187 : decode c_46 187 = .ok (.getfield 143, 3) := by decide +kernel
theorem d_46_190 : decode c_46 190 = .ok (.invokestatic 164, 3) := by decide +kernel
theorem d_46_193 : decode c_46 193 = .ok (.iadd, 1) := by decide +kernel
theorem d_46_194 : decode c_46 194 = .ok (.istore_n 3, 1) := by decide +kernel
theorem d_46_195 : decode c_46 195 = .ok (.aload_n 0, 1) := by decide +kernel
theorem d_46_196 : decode c_46 196 = .ok (.getfield 39, 3) := by decide +kernel
theorem d_46_199 : decode c_46 199 = .ok (.iload_n 3, 1) := by decide +kernel
theorem d_46_200 : decode c_46 200 = .ok (.iload_n 1, 1) := by decide +kernel
theorem d_46_201 : decode c_46 201 = .ok (.iastore, 1) := by decide +kernel
theorem d_46_202 : decode c_46 202 = .ok (.aload_n 0, 1) := by decide +kernel
theorem d_46_203 : decode c_46 203 = .ok (.getfield 42, 3) := by decide +kernel
theorem d_46_206 : decode c_46 206 = .ok (.iload_n 3, 1) := by decide +kernel
theorem d_46_207 : decode c_46 207 = .ok (.aload_n 0, 1) := by decide +kernel
theorem d_46_208 : decode c_46 208 = .ok (.getfield 146, 3) := by decide +kernel
theorem d_46_211 : decode c_46 211 = .ok (.iastore, 1) := by decide +kernel
theorem d_46_212 : decode c_46 212 = .ok (.aload_n 0, 1) := by decide +kernel
theorem d_46_213 : decode c_46 213 = .ok (.getfield 45, 3) := by decide +kernel
theorem d_46_216 : decode c_46 216 = .ok (.iload_n 3, 1) := by decide +kernel
theorem d_46_217 : decode c_46 217 = .ok (.aload_n 0, 1) := by decide +kernel
theorem d_46_218 : decode c_46 218 = .ok (.getfield 149, 3) := by decide +kernel
theorem d_46_221 : decode c_46 221 = .ok (.iastore, 1) := by decide +kernel
theorem d_46_222 : decode c_46 222 = .ok (.aload_n 0, 1) := by decide +kernel
theorem d_46_223 : decode c_46 223 = .ok (.getfield 48, 3) := by decide +kernel
theorem d_46_226 : decode c_46 226 = .ok (.iload_n 2, 1) := by decide +kernel
theorem d_46_227 : decode c_46 227 = .ok (.aload_n 0, 1) := by decide +kernel
theorem d_46_228 : decode c_46 228 = .ok (.getfield 143, 3) := by decide +kernel
theorem d_46_231 : decode c_46 231 = .ok (.ldc 105, 2) := by decide +kernel
theorem d_46_233 : decode c_46 233 = .ok (.if_icmp .eq (21), 3) := by decide +kernel
theorem d_46_236 : decode c_46 236 = .ok (.aload_n 0, 1) := by decide +kernel
theorem d_46_237 : decode c_46 237 = .ok (.getfield 143, 3) := by decide +kernel
theorem d_46_240 : decode c_46 240 = .ok (.ldc 106, 2) := by decide +kernel
theorem d_46_242 : decode c_46 242 = .ok (.if_icmp .eq (16), 3) := by decide +kernel
theorem d_46_245 : decode c_46 245 = .ok (.aload_n 0, 1) := by decide +kernel
theorem d_46_246 : decode c_46 246 = .ok (.getfield 48, 3) := by decide +kernel
theorem d_46_249 : decode c_46 249 = .ok (.iload_n 2, 1) := by decide +kernel
theorem d_46_250 : decode c_46 250 = .ok (.baload, 1) := by decide +kernel
theorem d_46_251 : decode c_46 251 = .ok (.ifCond .eq (7), 3) := by decide +kernel
theorem d_46_254 : decode c_46 254 = .ok (.iconst (1), 1) := by decide +kernel
theorem d_46_255 : decode c_46 255 = .ok (.goto (4), 3) := by decide +kernel
theorem d_46_258 : decode c_46 258 = .ok (.iconst (0), 1) := by decide +kernel
theorem d_46_259 : decode c_46 259 = .ok (.bastore, 1) := by decide +kernel
theorem d_46_260 : decode c_46 260 = .ok (.return_, 1) := by decide +kernel
set_option maxRecDepth 4000 in
theorem b_46_0 {mc ms : Nat} {X : Option (Nat × (Nat → Int32))} {T : aj_Tt} {Q : aj_Q} {J : aj_J} (hJ : aj_Cl 1 c_46 (none) false mc ms X T Q J) {o0 : Nat} {x1 : Int32} {Z : aj_Z} {I : aj_I} {G : aj_G} {C : Nat × Nat} (k0 : Z.2.1 o0 = some (.inl 1)) (h0 : ¬ (I o0 8) = 0 → J 31 [some (.ref o0), some (.int x1), some (.int ((I o0 15) - 1)), none] [] Z I G C) (h1 : (I o0 8) = 0 → ¬ (I o0 21) = 1836019574 → J 31 [some (.ref o0), some (.int x1), some (.int ((I o0 15) - 1)), none] [] Z I G C) (h2 : (I o0 8) = 0 → (I o0 21) = 1836019574 → Q none Z (aj_u2 I o0 11 1) G) : J 0 [some (.ref o0), some (.int x1), none, none] [] Z I G C := by
  refine s_aload_n hJ d_46_0 rfl ?_
  refine s_geti hJ lf_1_161 rfl d_46_1 k0 ?_
  refine s_iconst_1 hJ d_46_4 ?_
  refine s_isub hJ d_46_5 ?_
  refine s_istore_n hJ d_46_6 (Nat.le_of_ble_eq_true rfl) ?_
  refine s_aload_n hJ d_46_7 rfl ?_
  refine s_geti hJ lf_1_152 rfl d_46_8 k0 ?_
  refine s_if_ne (tgt := 31) hJ d_46_11 rfl (fun c0 => ?_) (fun c0 => ?_)
  · skip
    exact h0 c0
  · skip
    refine s_aload_n hJ d_46_14 rfl ?_
    refine s_geti hJ lf_1_143 rfl d_46_15 k0 ?_
    refine s_ldc hJ lc_1_118 d_46_18 ?_
    refine s_icmp_ne (tgt := 31) hJ d_46_20 rfl (fun c1 => ?_) (fun c1 => ?_)
    · skip
      exact h1 c0 c1
    · skip
      refine s_aload_n hJ d_46_23 rfl ?_
      refine s_iconst_1 hJ d_46_24 ?_
      refine s_puti hJ lf_1_155 rfl d_46_25 k0 ?_
      refine s_goto (tgt := 260) hJ d_46_28 rfl ?_
      exact s_vret hJ d_46_260 rfl (h2 c0 c1)
set_option maxRecDepth 4000 in
theorem b_46_31 {mc ms : Nat} {X : Option (Nat × (Nat → Int32))} {T : aj_Tt} {Q : aj_Q} {J : aj_J} (hJ : aj_Cl 1 c_46 (none) false mc ms X T Q J) {o0 : Nat} {x1 : Int32} {x2 : Int32} {w3 : Option Value} {Z : aj_Z} {I : aj_I} {G : aj_G} {C : Nat × Nat} (k0 : Z.2.1 o0 = some (.inl 1)) (h0 : ¬ (I o0 8) = 0 → J 71 [some (.ref o0), some (.int x1), some (.int x2), w3] [] Z I G C) (h1 : (I o0 8) = 0 → ¬ (I o0 21) = 1835295092 → J 71 [some (.ref o0), some (.int x1), some (.int x2), w3] [] Z I G C) (h2 : (I o0 8) = 0 → (I o0 21) = 1835295092 → Q none Z (aj_u2 (aj_u2 (aj_u2 I o0 12 1) o0 13 ((aj_u2 I o0 12 1) o0 22)) o0 14 ((aj_u2 (aj_u2 I o0 12 1) o0 13 ((aj_u2 I o0 12 1) o0 22)) o0 23)) G) : J 31 [some (.ref o0), some (.int x1), some (.int x2), w3] [] Z I G C := by
  refine s_aload_n hJ d_46_31 rfl ?_
  refine s_geti hJ lf_1_152 rfl d_46_32 k0 ?_
  refine s_if_ne (tgt := 71) hJ d_46_35 rfl (fun c0 => ?_) (fun c0 => ?_)
  · skip
    exact h0 c0
  · skip
    refine s_aload_n hJ d_46_38 rfl ?_
    refine s_geti hJ lf_1_143 rfl d_46_39 k0 ?_
    refine s_ldc hJ lc_1_135 d_46_42 ?_
    refine s_icmp_ne (tgt := 71) hJ d_46_44 rfl (fun c1 => ?_) (fun c1 => ?_)
    · skip
      exact h1 c0 c1
    · skip
      refine s_aload_n hJ d_46_47 rfl ?_
      refine s_iconst_1 hJ d_46_48 ?_
      refine s_puti hJ lf_1_158 rfl d_46_49 k0 ?_
      refine s_aload_n hJ d_46_52 rfl ?_
      refine s_aload_n hJ d_46_53 rfl ?_
      refine s_geti hJ lf_1_146 rfl d_46_54 k0 ?_
      refine s_puti hJ lf_1_167 rfl d_46_57 k0 ?_
      refine s_aload_n hJ d_46_60 rfl ?_
      refine s_aload_n hJ d_46_61 rfl ?_
      refine s_geti hJ lf_1_149 rfl d_46_62 k0 ?_
      refine s_puti hJ lf_1_170 rfl d_46_65 k0 ?_
      refine s_goto (tgt := 260) hJ d_46_68 rfl ?_
      exact s_vret hJ d_46_260 rfl (h2 c0 c1)
set_option maxRecDepth 4000 in
theorem b_46_71 {mc ms : Nat} {X : Option (Nat × (Nat → Int32))} {T : aj_Tt} {Q : aj_Q} {J : aj_J} (hJ : aj_Cl 1 c_46 (none) false mc ms X T Q J) {o0 : Nat} {x1 : Int32} {x2 : Int32} {w3 : Option Value} {q0 : Nat} {nk1 : Nat} {Z : aj_Z} {I : aj_I} {G : aj_G} {C : Nat × Nat} (k0 : Z.2.1 o0 = some (.inl 1)) (h0 : ¬ (I o0 8) = 1 → J 138 [some (.ref o0), some (.int x1), some (.int x2), w3] [] Z I G C) (h1 : (I o0 8) = 1 → ¬ (I o0 21) = 1953653099 → J 138 [some (.ref o0), some (.int x1), some (.int x2), w3] [] Z I G C) (r0 : Z.2.2 o0 16 = .ref q0) (k1 : Z.2.1 q0 = some (.inr (0, nk1))) (h2 : (I o0 8) = 1 → (I o0 21) = 1953653099 → vp_in (I o0 15) nk1) (h3 : (I o0 8) = 1 → (I o0 21) = 1953653099 → J 100 [some (.ref o0), some (.int x1), some (.int x2), some (.int 0)] [] Z (aj_u2 I q0 (Int32.toNatClampNeg (I o0 15)) (-1)) G C) : J 71 [some (.ref o0), some (.int x1), some (.int x2), w3] [] Z I G C := by
  refine s_aload_n hJ d_46_71 rfl ?_
  refine s_geti hJ lf_1_152 rfl d_46_72 k0 ?_
  refine s_iconst_1 hJ d_46_75 ?_
  refine s_icmp_ne (tgt := 138) hJ d_46_76 rfl (fun c0 => ?_) (fun c0 => ?_)
  · skip
    exact h0 c0
  · skip
    refine s_aload_n hJ d_46_79 rfl ?_
    refine s_geti hJ lf_1_143 rfl d_46_80 k0 ?_
    refine s_ldc hJ lc_1_119 d_46_83 ?_
    refine s_icmp_ne (tgt := 138) hJ d_46_85 rfl (fun c1 => ?_) (fun c1 => ?_)
    · skip
      exact h1 c0 c1
    · skip
      refine s_aload_n hJ d_46_88 rfl ?_
      refine s_getr hJ lf_1_36 rfl d_46_89 k0 r0 ?_
      refine s_aload_n hJ d_46_92 rfl ?_
      refine s_geti hJ lf_1_161 rfl d_46_93 k0 ?_
      refine s_iconst_m1 hJ d_46_96 ?_
      refine s_iast hJ d_46_97 k1 (h2 c0 c1) ?_
      refine s_iconst_0 hJ d_46_98 ?_
      refine s_istore_n hJ d_46_99 (Nat.le_of_ble_eq_true rfl) ?_
      exact h3 c0 c1
set_option maxRecDepth 4000 in
theorem b_46_100 {mc ms : Nat} {X : Option (Nat × (Nat → Int32))} {T : aj_Tt} {Q : aj_Q} {J : aj_J} (hJ : aj_Cl 1 c_46 (none) false mc ms X T Q J) {o0 : Nat} {w1 : Option Value} {w2 : Option Value} {x3 : Int32} {q0 : Nat} {nk1 : Nat} {Z : aj_Z} {I : aj_I} {G : aj_G} {C : Nat × Nat} (k0 : Z.2.1 o0 = some (.inl 1)) (h0 : 4 ≤ x3 → Q none Z (aj_u2 I o0 15 ((I o0 15) + 1)) G) (r0 : Z.2.2 o0 17 = .ref q0) (k1 : Z.2.1 q0 = some (.inr (0, nk1))) (h1 : ¬ 4 ≤ x3 → vp_in ((4 * (I o0 15)) + x3) nk1) (h2 : ¬ 4 ≤ x3 → J 100 [some (.ref o0), w1, (aj_clr w2), some (.int (x3 + 1))] [] Z (aj_u2 I q0 (Int32.toNatClampNeg ((4 * (I o0 15)) + x3)) (-1)) G C) : J 100 [some (.ref o0), w1, w2, some (.int x3)] [] Z I G C := by
  refine s_iload_n hJ d_46_100 rfl ?_
  refine s_iconst_4 hJ d_46_101 ?_
  refine s_icmp_ge (tgt := 125) hJ d_46_102 rfl (fun c0 => ?_) (fun c0 => ?_)
  · skip
    refine s_aload_n hJ d_46_125 rfl ?_
    refine s_aload_n hJ d_46_126 rfl ?_
    refine s_geti hJ lf_1_161 rfl d_46_127 k0 ?_
    refine s_iconst_1 hJ d_46_130 ?_
    refine s_iadd hJ d_46_131 ?_
    refine s_puti hJ lf_1_161 rfl d_46_132 k0 ?_
    refine s_goto (tgt := 260) hJ d_46_135 rfl ?_
    exact s_vret hJ d_46_260 rfl (h0 c0)
  · skip
    refine s_aload_n hJ d_46_105 rfl ?_
    refine s_getr hJ lf_1_39 rfl d_46_106 k0 r0 ?_
    refine s_iconst_4 hJ d_46_109 ?_
    refine s_aload_n hJ d_46_110 rfl ?_
    refine s_geti hJ lf_1_161 rfl d_46_111 k0 ?_
    refine s_imul hJ d_46_114 ?_
    refine s_iload_n hJ d_46_115 rfl ?_
    refine s_iadd hJ d_46_116 ?_
    refine s_iconst_m1 hJ d_46_117 ?_
    refine s_iast hJ d_46_118 k1 (h1 c0) ?_
    refine s_iinc (v := 1) hJ d_46_119 rfl (by decide) ?_
    refine s_goto (tgt := 100) hJ d_46_122 rfl ?_
    exact h2 c0
set_option maxRecDepth 4000 in
theorem b_46_138 {mc ms : Nat} {X : Option (Nat × (Nat → Int32))} {T : aj_Tt} {Q : aj_Q} {J : aj_J} (hJ : aj_Cl 1 c_46 (none) false mc ms X T Q J) {o0 : Nat} {x1 : Int32} {x2 : Int32} {w3 : Option Value} {q0 : Nat} {nk1 : Nat} {Z : aj_Z} {I : aj_I} {G : aj_G} {C : Nat × Nat} (k0 : Z.2.1 o0 = some (.inl 1)) (h0 : ¬ (I o0 8) = 2 → J 165 [some (.ref o0), some (.int x1), some (.int x2), w3] [] Z I G C) (h1 : (I o0 8) = 2 → ¬ (I o0 21) = 1937007212 → J 165 [some (.ref o0), some (.int x1), some (.int x2), w3] [] Z I G C) (r0 : Z.2.2 o0 16 = .ref q0) (k1 : Z.2.1 q0 = some (.inr (0, nk1))) (h2 : (I o0 8) = 2 → (I o0 21) = 1937007212 → vp_in x2 nk1) (h3 : (I o0 8) = 2 → (I o0 21) = 1937007212 → Q none Z (aj_u2 I q0 (Int32.toNatClampNeg x2) x1) G) : J 138 [some (.ref o0), some (.int x1), some (.int x2), w3] [] Z I G C := by
  refine s_aload_n hJ d_46_138 rfl ?_
  refine s_geti hJ lf_1_152 rfl d_46_139 k0 ?_
  refine s_iconst_2 hJ d_46_142 ?_
  refine s_icmp_ne (tgt := 165) hJ d_46_143 rfl (fun c0 => ?_) (fun c0 => ?_)
  · skip
    exact h0 c0
  · skip
    refine s_aload_n hJ d_46_146 rfl ?_
    refine s_geti hJ lf_1_143 rfl d_46_147 k0 ?_
    refine s_ldc hJ lc_1_120 d_46_150 ?_
    refine s_icmp_ne (tgt := 165) hJ d_46_152 rfl (fun c1 => ?_) (fun c1 => ?_)
    · skip
      exact h1 c0 c1
    · skip
      refine s_aload_n hJ d_46_155 rfl ?_
      refine s_getr hJ lf_1_36 rfl d_46_156 k0 r0 ?_
      refine s_iload_n hJ d_46_159 rfl ?_
      refine s_iload_n hJ d_46_160 rfl ?_
      refine s_iast hJ d_46_161 k1 (h2 c0 c1) ?_
      refine s_goto (tgt := 260) hJ d_46_162 rfl ?_
      exact s_vret hJ d_46_260 rfl (h3 c0 c1)
set_option maxRecDepth 4000 in
theorem b_46_165 {mc ms : Nat} {X : Option (Nat × (Nat → Int32))} {T : aj_Tt} {Q : aj_Q} {J : aj_J} (hJ : aj_Cl 1 c_46 (none) false mc ms X T Q J) {o0 : Nat} {x1 : Int32} {x2 : Int32} {w3 : Option Value} {Z : aj_Z} {I : aj_I} {G : aj_G} {C : Nat × Nat} (k0 : Z.2.1 o0 = some (.inl 1)) (h0 : ¬ (I o0 8) = 3 → Q none Z I G) (h1 : (I o0 8) = 3 → T 0 0 43 [.int (I o0 21)] Z I G (fun r Z1 I1 G1 => J 180 [some (.ref o0), some (.int x1), some (.int x2), w3] (r.toList ++ []) Z1 I1 G1 C)) : J 165 [some (.ref o0), some (.int x1), some (.int x2), w3] [] Z I G C := by
  refine s_aload_n hJ d_46_165 rfl ?_
  refine s_geti hJ lf_1_152 rfl d_46_166 k0 ?_
  refine s_iconst_3 hJ d_46_169 ?_
  refine s_icmp_ne (tgt := 260) hJ d_46_170 rfl (fun c0 => ?_) (fun c0 => ?_)
  · skip
    exact s_vret hJ d_46_260 rfl (h0 c0)
  · skip
    refine s_aload_n hJ d_46_173 rfl ?_
    refine s_geti hJ lf_1_143 rfl d_46_174 k0 ?_
    exact s_S1 hJ lm_1_164 d_46_177 (Nat.le_of_ble_eq_true rfl) (h1 c0)
set_option maxRecDepth 4000 in
theorem b_46_180 {mc ms : Nat} {X : Option (Nat × (Nat → Int32))} {T : aj_Tt} {Q : aj_Q} {J : aj_J} (hJ : aj_Cl 1 c_46 (none) false mc ms X T Q J) {o0 : Nat} {x1 : Int32} {x2 : Int32} {w3 : Option Value} {s0 : Int32} {Z : aj_Z} {I : aj_I} {G : aj_G} {C : Nat × Nat} (h0 : s0 < 0 → Q none Z I G) (k0 : Z.2.1 o0 = some (.inl 1)) (h1 : ¬ s0 < 0 → T 0 0 43 [.int (I o0 21)] Z I G (fun r Z1 I1 G1 => J 193 [some (.ref o0), some (.int x1), some (.int x2), w3] (r.toList ++ [.int (4 * x2)]) Z1 I1 G1 C)) : J 180 [some (.ref o0), some (.int x1), some (.int x2), w3] [.int s0] Z I G C := by
  refine s_if_lt (tgt := 260) hJ d_46_180 rfl (fun c0 => ?_) (fun c0 => ?_)
  · skip
    exact s_vret hJ d_46_260 rfl (h0 c0)
  · skip
    refine s_iconst_4 hJ d_46_183 ?_
    refine s_iload_n hJ d_46_184 rfl ?_
    refine s_imul hJ d_46_185 ?_
    refine s_aload_n hJ d_46_186 rfl ?_
    refine s_geti hJ lf_1_143 rfl d_46_187 k0 ?_
    exact s_S1 hJ lm_1_164 d_46_190 (Nat.le_of_ble_eq_true rfl) (h1 c0)
set_option maxRecDepth 4000 in
theorem b_46_193 {mc ms : Nat} {X : Option (Nat × (Nat → Int32))} {T : aj_Tt} {Q : aj_Q} {J : aj_J} (hJ : aj_Cl 1 c_46 (none) false mc ms X T Q J) {o0 : Nat} {x1 : Int32} {x2 : Int32} {w3 : Option Value} {s0 : Int32} {s1 : Int32} {q0 : Nat} {nk1 : Nat} {q1 : Nat} {nk3 : Nat} {q2 : Nat} {nk5 : Nat} {q3 : Nat} {nk7 : Nat} {Z : aj_Z} {I : aj_I} {G : aj_G} {C : Nat × Nat} (k0 : Z.2.1 o0 = some (.inl 1)) (r0 : Z.2.2 o0 17 = .ref q0) (k1 : Z.2.1 q0 = some (.inr (0, nk1))) (h0 : vp_in (s1 + s0) nk1) (r1 : Z.2.2 o0 18 = .ref q1) (k3 : Z.2.1 q1 = some (.inr (0, nk3))) (h1 : vp_in (s1 + s0) nk3) (r2 : Z.2.2 o0 19 = .ref q2) (k5 : Z.2.1 q2 = some (.inr (0, nk5))) (h2 : vp_in (s1 + s0) nk5) (r3 : Z.2.2 o0 20 = .ref q3) (k7 : Z.2.1 q3 = some (.inr (3, nk7))) (h3 : ((aj_u2 (aj_u2 (aj_u2 I q0 (Int32.toNatClampNeg (s1 + s0)) x1) q1 (Int32.toNatClampNeg (s1 + s0)) ((aj_u2 I q0 (Int32.toNatClampNeg (s1 + s0)) x1) o0 22)) q2 (Int32.toNatClampNeg (s1 + s0)) ((aj_u2 (aj_u2 I q0 (Int32.toNatClampNeg (s1 + s0)) x1) q1 (Int32.toNatClampNeg (s1 + s0)) ((aj_u2 I q0 (Int32.toNatClampNeg (s1 + s0)) x1) o0 22)) o0 23)) o0 21) = 1668232756 → vp_in x2 nk7) (h4 : ((aj_u2 (aj_u2 (aj_u2 I q0 (Int32.toNatClampNeg (s1 + s0)) x1) q1 (Int32.toNatClampNeg (s1 + s0)) ((aj_u2 I q0 (Int32.toNatClampNeg (s1 + s0)) x1) o0 22)) q2 (Int32.toNatClampNeg (s1 + s0)) ((aj_u2 (aj_u2 I q0 (Int32.toNatClampNeg (s1 + s0)) x1) q1 (Int32.toNatClampNeg (s1 + s0)) ((aj_u2 I q0 (Int32.toNatClampNeg (s1 + s0)) x1) o0 22)) o0 23)) o0 21) = 1668232756 → Q none Z (aj_u2 (aj_u2 (aj_u2 (aj_u2 I q0 (Int32.toNatClampNeg (s1 + s0)) x1) q1 (Int32.toNatClampNeg (s1 + s0)) ((aj_u2 I q0 (Int32.toNatClampNeg (s1 + s0)) x1) o0 22)) q2 (Int32.toNatClampNeg (s1 + s0)) ((aj_u2 (aj_u2 I q0 (Int32.toNatClampNeg (s1 + s0)) x1) q1 (Int32.toNatClampNeg (s1 + s0)) ((aj_u2 I q0 (Int32.toNatClampNeg (s1 + s0)) x1) o0 22)) o0 23)) q3 (Int32.toNatClampNeg x2) (1 &&& 1)) G) (h5 : ¬ ((aj_u2 (aj_u2 (aj_u2 I q0 (Int32.toNatClampNeg (s1 + s0)) x1) q1 (Int32.toNatClampNeg (s1 + s0)) ((aj_u2 I q0 (Int32.toNatClampNeg (s1 + s0)) x1) o0 22)) q2 (Int32.toNatClampNeg (s1 + s0)) ((aj_u2 (aj_u2 I q0 (Int32.toNatClampNeg (s1 + s0)) x1) q1 (Int32.toNatClampNeg (s1 + s0)) ((aj_u2 I q0 (Int32.toNatClampNeg (s1 + s0)) x1) o0 22)) o0 23)) o0 21) = 1668232756 → ((aj_u2 (aj_u2 (aj_u2 I q0 (Int32.toNatClampNeg (s1 + s0)) x1) q1 (Int32.toNatClampNeg (s1 + s0)) ((aj_u2 I q0 (Int32.toNatClampNeg (s1 + s0)) x1) o0 22)) q2 (Int32.toNatClampNeg (s1 + s0)) ((aj_u2 (aj_u2 I q0 (Int32.toNatClampNeg (s1 + s0)) x1) q1 (Int32.toNatClampNeg (s1 + s0)) ((aj_u2 I q0 (Int32.toNatClampNeg (s1 + s0)) x1) o0 22)) o0 23)) o0 21) = 1937007471 → vp_in x2 nk7) (h6 : ¬ ((aj_u2 (aj_u2 (aj_u2 I q0 (Int32.toNatClampNeg (s1 + s0)) x1) q1 (Int32.toNatClampNeg (s1 + s0)) ((aj_u2 I q0 (Int32.toNatClampNeg (s1 + s0)) x1) o0 22)) q2 (Int32.toNatClampNeg (s1 + s0)) ((aj_u2 (aj_u2 I q0 (Int32.toNatClampNeg (s1 + s0)) x1) q1 (Int32.toNatClampNeg (s1 + s0)) ((aj_u2 I q0 (Int32.toNatClampNeg (s1 + s0)) x1) o0 22)) o0 23)) o0 21) = 1668232756 → ((aj_u2 (aj_u2 (aj_u2 I q0 (Int32.toNatClampNeg (s1 + s0)) x1) q1 (Int32.toNatClampNeg (s1 + s0)) ((aj_u2 I q0 (Int32.toNatClampNeg (s1 + s0)) x1) o0 22)) q2 (Int32.toNatClampNeg (s1 + s0)) ((aj_u2 (aj_u2 I q0 (Int32.toNatClampNeg (s1 + s0)) x1) q1 (Int32.toNatClampNeg (s1 + s0)) ((aj_u2 I q0 (Int32.toNatClampNeg (s1 + s0)) x1) o0 22)) o0 23)) o0 21) = 1937007471 → Q none Z (aj_u2 (aj_u2 (aj_u2 (aj_u2 I q0 (Int32.toNatClampNeg (s1 + s0)) x1) q1 (Int32.toNatClampNeg (s1 + s0)) ((aj_u2 I q0 (Int32.toNatClampNeg (s1 + s0)) x1) o0 22)) q2 (Int32.toNatClampNeg (s1 + s0)) ((aj_u2 (aj_u2 I q0 (Int32.toNatClampNeg (s1 + s0)) x1) q1 (Int32.toNatClampNeg (s1 + s0)) ((aj_u2 I q0 (Int32.toNatClampNeg (s1 + s0)) x1) o0 22)) o0 23)) q3 (Int32.toNatClampNeg x2) (0 &&& 1)) G) (h7 : ¬ ((aj_u2 (aj_u2 (aj_u2 I q0 (Int32.toNatClampNeg (s1 + s0)) x1) q1 (Int32.toNatClampNeg (s1 + s0)) ((aj_u2 I q0 (Int32.toNatClampNeg (s1 + s0)) x1) o0 22)) q2 (Int32.toNatClampNeg (s1 + s0)) ((aj_u2 (aj_u2 I q0 (Int32.toNatClampNeg (s1 + s0)) x1) q1 (Int32.toNatClampNeg (s1 + s0)) ((aj_u2 I q0 (Int32.toNatClampNeg (s1 + s0)) x1) o0 22)) o0 23)) o0 21) = 1668232756 → ¬ ((aj_u2 (aj_u2 (aj_u2 I q0 (Int32.toNatClampNeg (s1 + s0)) x1) q1 (Int32.toNatClampNeg (s1 + s0)) ((aj_u2 I q0 (Int32.toNatClampNeg (s1 + s0)) x1) o0 22)) q2 (Int32.toNatClampNeg (s1 + s0)) ((aj_u2 (aj_u2 I q0 (Int32.toNatClampNeg (s1 + s0)) x1) q1 (Int32.toNatClampNeg (s1 + s0)) ((aj_u2 I q0 (Int32.toNatClampNeg (s1 + s0)) x1) o0 22)) o0 23)) o0 21) = 1937007471 → vp_in x2 nk7) (h8 : ¬ ((aj_u2 (aj_u2 (aj_u2 I q0 (Int32.toNatClampNeg (s1 + s0)) x1) q1 (Int32.toNatClampNeg (s1 + s0)) ((aj_u2 I q0 (Int32.toNatClampNeg (s1 + s0)) x1) o0 22)) q2 (Int32.toNatClampNeg (s1 + s0)) ((aj_u2 (aj_u2 I q0 (Int32.toNatClampNeg (s1 + s0)) x1) q1 (Int32.toNatClampNeg (s1 + s0)) ((aj_u2 I q0 (Int32.toNatClampNeg (s1 + s0)) x1) o0 22)) o0 23)) o0 21) = 1668232756 → ¬ ((aj_u2 (aj_u2 (aj_u2 I q0 (Int32.toNatClampNeg (s1 + s0)) x1) q1 (Int32.toNatClampNeg (s1 + s0)) ((aj_u2 I q0 (Int32.toNatClampNeg (s1 + s0)) x1) o0 22)) q2 (Int32.toNatClampNeg (s1 + s0)) ((aj_u2 (aj_u2 I q0 (Int32.toNatClampNeg (s1 + s0)) x1) q1 (Int32.toNatClampNeg (s1 + s0)) ((aj_u2 I q0 (Int32.toNatClampNeg (s1 + s0)) x1) o0 22)) o0 23)) o0 21) = 1937007471 → ((aj_u2 (aj_u2 (aj_u2 I q0 (Int32.toNatClampNeg (s1 + s0)) x1) q1 (Int32.toNatClampNeg (s1 + s0)) ((aj_u2 I q0 (Int32.toNatClampNeg (s1 + s0)) x1) o0 22)) q2 (Int32.toNatClampNeg (s1 + s0)) ((aj_u2 (aj_u2 I q0 (Int32.toNatClampNeg (s1 + s0)) x1) q1 (Int32.toNatClampNeg (s1 + s0)) ((aj_u2 I q0 (Int32.toNatClampNeg (s1 + s0)) x1) o0 22)) o0 23)) q3 (Int32.toNatClampNeg x2)) = 0 → vp_in x2 nk7) (h9 : ¬ ((aj_u2 (aj_u2 (aj_u2 I q0 (Int32.toNatClampNeg (s1 + s0)) x1) q1 (Int32.toNatClampNeg (s1 + s0)) ((aj_u2 I q0 (Int32.toNatClampNeg (s1 + s0)) x1) o0 22)) q2 (Int32.toNatClampNeg (s1 + s0)) ((aj_u2 (aj_u2 I q0 (Int32.toNatClampNeg (s1 + s0)) x1) q1 (Int32.toNatClampNeg (s1 + s0)) ((aj_u2 I q0 (Int32.toNatClampNeg (s1 + s0)) x1) o0 22)) o0 23)) o0 21) = 1668232756 → ¬ ((aj_u2 (aj_u2 (aj_u2 I q0 (Int32.toNatClampNeg (s1 + s0)) x1) q1 (Int32.toNatClampNeg (s1 + s0)) ((aj_u2 I q0 (Int32.toNatClampNeg (s1 + s0)) x1) o0 22)) q2 (Int32.toNatClampNeg (s1 + s0)) ((aj_u2 (aj_u2 I q0 (Int32.toNatClampNeg (s1 + s0)) x1) q1 (Int32.toNatClampNeg (s1 + s0)) ((aj_u2 I q0 (Int32.toNatClampNeg (s1 + s0)) x1) o0 22)) o0 23)) o0 21) = 1937007471 → ((aj_u2 (aj_u2 (aj_u2 I q0 (Int32.toNatClampNeg (s1 + s0)) x1) q1 (Int32.toNatClampNeg (s1 + s0)) ((aj_u2 I q0 (Int32.toNatClampNeg (s1 + s0)) x1) o0 22)) q2 (Int32.toNatClampNeg (s1 + s0)) ((aj_u2 (aj_u2 I q0 (Int32.toNatClampNeg (s1 + s0)) x1) q1 (Int32.toNatClampNeg (s1 + s0)) ((aj_u2 I q0 (Int32.toNatClampNeg (s1 + s0)) x1) o0 22)) o0 23)) q3 (Int32.toNatClampNeg x2)) = 0 → Q none Z (aj_u2 (aj_u2 (aj_u2 (aj_u2 I q0 (Int32.toNatClampNeg (s1 + s0)) x1) q1 (Int32.toNatClampNeg (s1 + s0)) ((aj_u2 I q0 (Int32.toNatClampNeg (s1 + s0)) x1) o0 22)) q2 (Int32.toNatClampNeg (s1 + s0)) ((aj_u2 (aj_u2 I q0 (Int32.toNatClampNeg (s1 + s0)) x1) q1 (Int32.toNatClampNeg (s1 + s0)) ((aj_u2 I q0 (Int32.toNatClampNeg (s1 + s0)) x1) o0 22)) o0 23)) q3 (Int32.toNatClampNeg x2) (0 &&& 1)) G) (h10 : ¬ ((aj_u2 (aj_u2 (aj_u2 I q0 (Int32.toNatClampNeg (s1 + s0)) x1) q1 (Int32.toNatClampNeg (s1 + s0)) ((aj_u2 I q0 (Int32.toNatClampNeg (s1 + s0)) x1) o0 22)) q2 (Int32.toNatClampNeg (s1 + s0)) ((aj_u2 (aj_u2 I q0 (Int32.toNatClampNeg (s1 + s0)) x1) q1 (Int32.toNatClampNeg (s1 + s0)) ((aj_u2 I q0 (Int32.toNatClampNeg (s1 + s0)) x1) o0 22)) o0 23)) o0 21) = 1668232756 → ¬ ((aj_u2 (aj_u2 (aj_u2 I q0 (Int32.toNatClampNeg (s1 + s0)) x1) q1 (Int32.toNatClampNeg (s1 + s0)) ((aj_u2 I q0 (Int32.toNatClampNeg (s1 + s0)) x1) o0 22)) q2 (Int32.toNatClampNeg (s1 + s0)) ((aj_u2 (aj_u2 I q0 (Int32.toNatClampNeg (s1 + s0)) x1) q1 (Int32.toNatClampNeg (s1 + s0)) ((aj_u2 I q0 (Int32.toNatClampNeg (s1 + s0)) x1) o0 22)) o0 23)) o0 21) = 1937007471 → ¬ ((aj_u2 (aj_u2 (aj_u2 I q0 (Int32.toNatClampNeg (s1 + s0)) x1) q1 (Int32.toNatClampNeg (s1 + s0)) ((aj_u2 I q0 (Int32.toNatClampNeg (s1 + s0)) x1) o0 22)) q2 (Int32.toNatClampNeg (s1 + s0)) ((aj_u2 (aj_u2 I q0 (Int32.toNatClampNeg (s1 + s0)) x1) q1 (Int32.toNatClampNeg (s1 + s0)) ((aj_u2 I q0 (Int32.toNatClampNeg (s1 + s0)) x1) o0 22)) o0 23)) q3 (Int32.toNatClampNeg x2)) = 0 → vp_in x2 nk7) (h11 : ¬ ((aj_u2 (aj_u2 (aj_u2 I q0 (Int32.toNatClampNeg (s1 + s0)) x1) q1 (Int32.toNatClampNeg (s1 + s0)) ((aj_u2 I q0 (Int32.toNatClampNeg (s1 + s0)) x1) o0 22)) q2 (Int32.toNatClampNeg (s1 + s0)) ((aj_u2 (aj_u2 I q0 (Int32.toNatClampNeg (s1 + s0)) x1) q1 (Int32.toNatClampNeg (s1 + s0)) ((aj_u2 I q0 (Int32.toNatClampNeg (s1 + s0)) x1) o0 22)) o0 23)) o0 21) = 1668232756 → ¬ ((aj_u2 (aj_u2 (aj_u2 I q0 (Int32.toNatClampNeg (s1 + s0)) x1) q1 (Int32.toNatClampNeg (s1 + s0)) ((aj_u2 I q0 (Int32.toNatClampNeg (s1 + s0)) x1) o0 22)) q2 (Int32.toNatClampNeg (s1 + s0)) ((aj_u2 (aj_u2 I q0 (Int32.toNatClampNeg (s1 + s0)) x1) q1 (Int32.toNatClampNeg (s1 + s0)) ((aj_u2 I q0 (Int32.toNatClampNeg (s1 + s0)) x1) o0 22)) o0 23)) o0 21) = 1937007471 → ¬ ((aj_u2 (aj_u2 (aj_u2 I q0 (Int32.toNatClampNeg (s1 + s0)) x1) q1 (Int32.toNatClampNeg (s1 + s0)) ((aj_u2 I q0 (Int32.toNatClampNeg (s1 + s0)) x1) o0 22)) q2 (Int32.toNatClampNeg (s1 + s0)) ((aj_u2 (aj_u2 I q0 (Int32.toNatClampNeg (s1 + s0)) x1) q1 (Int32.toNatClampNeg (s1 + s0)) ((aj_u2 I q0 (Int32.toNatClampNeg (s1 + s0)) x1) o0 22)) o0 23)) q3 (Int32.toNatClampNeg x2)) = 0 → Q none Z (aj_u2 (aj_u2 (aj_u2 (aj_u2 I q0 (Int32.toNatClampNeg (s1 + s0)) x1) q1 (Int32.toNatClampNeg (s1 + s0)) ((aj_u2 I q0 (Int32.toNatClampNeg (s1 + s0)) x1) o0 22)) q2 (Int32.toNatClampNeg (s1 + s0)) ((aj_u2 (aj_u2 I q0 (Int32.toNatClampNeg (s1 + s0)) x1) q1 (Int32.toNatClampNeg (s1 + s0)) ((aj_u2 I q0 (Int32.toNatClampNeg (s1 + s0)) x1) o0 22)) o0 23)) q3 (Int32.toNatClampNeg x2) (1 &&& 1)) G) : J 193 [some (.ref o0), some (.int x1), some (.int x2), w3] [.int s0, .int s1] Z I G C := by
  refine s_iadd hJ d_46_193 ?_
  refine s_istore_n hJ d_46_194 (Nat.le_of_ble_eq_true rfl) ?_
  refine s_aload_n hJ d_46_195 rfl ?_
  refine s_getr hJ lf_1_39 rfl d_46_196 k0 r0 ?_
  refine s_iload_n hJ d_46_199 rfl ?_
  refine s_iload_n hJ d_46_200 rfl ?_
  refine s_iast hJ d_46_201 k1 (h0) ?_
  refine s_aload_n hJ d_46_202 rfl ?_
  refine s_getr hJ lf_1_42 rfl d_46_203 k0 r1 ?_
  refine s_iload_n hJ d_46_206 rfl ?_
  refine s_aload_n hJ d_46_207 rfl ?_
  refine s_geti hJ lf_1_146 rfl d_46_208 k0 ?_
  refine s_iast hJ d_46_211 k3 (h1) ?_
  refine s_aload_n hJ d_46_212 rfl ?_
  refine s_getr hJ lf_1_45 rfl d_46_213 k0 r2 ?_
  refine s_iload_n hJ d_46_216 rfl ?_
  refine s_aload_n hJ d_46_217 rfl ?_
  refine s_geti hJ lf_1_149 rfl d_46_218 k0 ?_
  refine s_iast hJ d_46_221 k5 (h2) ?_
  refine s_aload_n hJ d_46_222 rfl ?_
  refine s_getr hJ lf_1_48 rfl d_46_223 k0 r3 ?_
  refine s_iload_n hJ d_46_226 rfl ?_
  refine s_aload_n hJ d_46_227 rfl ?_
  refine s_geti hJ lf_1_143 rfl d_46_228 k0 ?_
  refine s_ldc hJ lc_1_105 d_46_231 ?_
  refine s_icmp_eq (tgt := 254) hJ d_46_233 rfl (fun c0 => ?_) (fun c0 => ?_)
  · skip
    refine s_iconst_1 hJ d_46_254 ?_
    refine s_goto (tgt := 259) hJ d_46_255 rfl ?_
    refine s_zast hJ d_46_259 k7 (h3 c0) ?_
    exact s_vret hJ d_46_260 rfl (h4 c0)
  · skip
    refine s_aload_n hJ d_46_236 rfl ?_
    refine s_geti hJ lf_1_143 rfl d_46_237 k0 ?_
    refine s_ldc hJ lc_1_106 d_46_240 ?_
    refine s_icmp_eq (tgt := 258) hJ d_46_242 rfl (fun c1 => ?_) (fun c1 => ?_)
    · skip
      refine s_iconst_0 hJ d_46_258 ?_
      refine s_zast hJ d_46_259 k7 (h5 c0 c1) ?_
      exact s_vret hJ d_46_260 rfl (h6 c0 c1)
    · skip
      refine s_aload_n hJ d_46_245 rfl ?_
      refine s_getr hJ lf_1_48 rfl d_46_246 k0 r3 ?_
      refine s_iload_n hJ d_46_249 rfl ?_
      refine s_zald hJ d_46_250 k7 (h7 c0 c1) ?_
      refine s_if_eq (tgt := 258) hJ d_46_251 rfl (fun c2 => ?_) (fun c2 => ?_)
      · skip
        refine s_iconst_0 hJ d_46_258 ?_
        refine s_zast hJ d_46_259 k7 (h8 c0 c1 c2) ?_
        exact s_vret hJ d_46_260 rfl (h9 c0 c1 c2)
      · skip
        refine s_iconst_1 hJ d_46_254 ?_
        refine s_goto (tgt := 259) hJ d_46_255 rfl ?_
        refine s_zast hJ d_46_259 k7 (h10 c0 c1 c2) ?_
        exact s_vret hJ d_46_260 rfl (h11 c0 c1 c2)
-- ReelOfBoxesModel.isWhole()Z : method 47
theorem d_47_0 : decode c_47 0 = .ok (.aload_n 0, 1) := by decide +kernel
theorem d_47_1 : decode c_47 1 = .ok (.getfield 161, 3) := by decide +kernel
theorem d_47_4 : decode c_47 4 = .ok (.iconst (1), 1) := by decide +kernel
theorem d_47_5 : decode c_47 5 = .ok (.isub, 1) := by decide +kernel
theorem d_47_6 : decode c_47 6 = .ok (.istore_n 1, 1) := by decide +kernel
theorem d_47_7 : decode c_47 7 = .ok (.aload_n 0, 1) := by decide +kernel
theorem d_47_8 : decode c_47 8 = .ok (.getfield 152, 3) := by decide +kernel
theorem d_47_11 : decode c_47 11 = .ok (.iconst (3), 1) := by decide +kernel
theorem d_47_12 : decode c_47 12 = .ok (.if_icmp .ne (59), 3) := by decide +kernel
theorem d_47_15 : decode c_47 15 = .ok (.aload_n 0, 1) := by decide +kernel
theorem d_47_16 : decode c_47 16 = .ok (.getfield 39, 3) := by decide +kernel
theorem d_47_19 : decode c_47 19 = .ok (.iconst (4), 1) := by decide +kernel
theorem d_47_20 : decode c_47 20 = .ok (.iload_n 1, 1) := by decide +kernel
theorem d_47_21 : decode c_47 21 = .ok (.imul, 1) := by decide +kernel
theorem d_47_22 : decode c_47 22 = .ok (.iaload, 1) := by decide +kernel
theorem d_47_23 : decode c_47 23 = .ok (.ifCond .lt (46), 3) := by decide +kernel
theorem d_47_26 : decode c_47 26 = .ok (.aload_n 0, 1) := by decide +kernel
theorem d_47_27 : decode c_47 27 = .ok (.getfield 39, 3) := by decide +kernel
theorem d_47_30 : decode c_47 30 = .ok (.iconst (4), 1) := by decide +kernel
theorem d_47_31 : decode c_47 31 = .ok (.iload_n 1, 1) := by decide +kernel
theorem d_47_32 : decode c_47 32 = .ok (.imul, 1) := by decide +kernel
theorem d_47_33 : decode c_47 33 = .ok (.iconst (1), 1) := by decide +kernel
theorem d_47_34 : decode c_47 34 = .ok (.iadd, 1) := by decide +kernel
theorem d_47_35 : decode c_47 35 = .ok (.iaload, 1) := by decide +kernel
theorem d_47_36 : decode c_47 36 = .ok (.ifCond .lt (33), 3) := by decide +kernel
theorem d_47_39 : decode c_47 39 = .ok (.aload_n 0, 1) := by decide +kernel
theorem d_47_40 : decode c_47 40 = .ok (.getfield 39, 3) := by decide +kernel
theorem d_47_43 : decode c_47 43 = .ok (.iconst (4), 1) := by decide +kernel
theorem d_47_44 : decode c_47 44 = .ok (.iload_n 1, 1) := by decide +kernel
theorem d_47_45 : decode c_47 45 = .ok (.imul, 1) := by decide +kernel
theorem d_47_46 : decode c_47 46 = .ok (.iconst (2), 1) := by decide +kernel
theorem d_47_47 : decode c_47 47 = .ok (.iadd, 1) := by decide +kernel
theorem d_47_48 : decode c_47 48 = .ok (.iaload, 1) := by decide +kernel
theorem d_47_49 : decode c_47 49 = .ok (.ifCond .lt (20), 3) := by decide +kernel
theorem d_47_52 : decode c_47 52 = .ok (.aload_n 0, 1) := by decide +kernel
theorem d_47_53 : decode c_47 53 = .ok (.getfield 39, 3) := by decide +kernel
theorem d_47_56 : decode c_47 56 = .ok (.iconst (4), 1) := by decide +kernel
theorem d_47_57 : decode c_47 57 = .ok (.iload_n 1, 1) := by decide +kernel
theorem d_47_58 : decode c_47 58 = .ok (.imul, 1) := by decide +kernel
theorem d_47_59 : decode c_47 59 = .ok (.iconst (3), 1) := by decide +kernel
theorem d_47_60 : decode c_47 60 = .ok (.iadd, 1) := by decide +kernel
theorem d_47_61 : decode c_47 61 = .ok (.iaload, 1) := by decide +kernel
theorem d_47_62 : decode c_47 62 = .ok (.ifCond .lt (7), 3) := by decide +kernel
theorem d_47_65 : decode c_47 65 = .ok (.iconst (1), 1) := by decide +kernel
theorem d_47_66 : decode c_47 66 = .ok (.goto (4), 3) := by decide +kernel
theorem d_47_69 : decode c_47 69 = .ok (.iconst (0), 1) := by decide +kernel
theorem d_47_70 : decode c_47 70 = .ok (.ireturn, 1) := by decide +kernel
theorem d_47_71 : decode c_47 71 = .ok (.aload_n 0, 1) := by decide +kernel
theorem d_47_72 : decode c_47 72 = .ok (.getfield 152, 3) := by decide +kernel
theorem d_47_75 : decode c_47 75 = .ok (.iconst (2), 1) := by decide +kernel
theorem d_47_76 : decode c_47 76 = .ok (.if_icmp .ne (20), 3) := by decide +kernel
theorem d_47_79 : decode c_47 79 = .ok (.aload_n 0, 1) := by decide +kernel
theorem d_47_80 : decode c_47 80 = .ok (.getfield 36, 3) := by decide +kernel
theorem d_47_83 : decode c_47 83 = .ok (.iload_n 1, 1) := by decide +kernel
theorem d_47_84 : decode c_47 84 = .ok (.iaload, 1) := by decide +kernel
theorem d_47_85 : decode c_47 85 = .ok (.ifCond .lt (7), 3) := by decide +kernel
theorem d_47_88 : decode c_47 88 = .ok (.iconst (1), 1) := by decide +kernel
theorem d_47_89 : decode c_47 89 = .ok (.goto (36), 3) := by decide +kernel
theorem d_47_92 : decode c_47 92 = .ok (.iconst (0), 1) := by decide +kernel
theorem d_47_93 : decode c_47 93 = .ok (.goto (32), 3) := by decide +kernel
theorem d_47_96 : decode c_47 96 = .ok (.aload_n 0, 1) := by decide +kernel
theorem d_47_97 : decode c_47 97 = .ok (.getfield 152, 3) := by decide +kernel
theorem d_47_100 : decode c_47 100 = .ok (.iconst (1), 1) := by decide +kernel
theorem d_47_101 : decode c_47 101 = .ok (.if_icmp .eq (19), 3) := by decide +kernel
theorem d_47_104 : decode c_47 104 = .ok (.aload_n 0, 1) := by decide +kernel
theorem d_47_105 : decode c_47 105 = .ok (.getfield 155, 3) := by decide +kernel
theorem d_47_108 : decode c_47 108 = .ok (.iconst (1), 1) := by decide +kernel
theorem d_47_109 : decode c_47 109 = .ok (.if_icmp .ne (15), 3) := by decide +kernel
theorem d_47_112 : decode c_47 112 = .ok (.aload_n 0, 1) := by decide +kernel
theorem d_47_113 : decode c_47 113 = .ok (.getfield 158, 3) := by decide +kernel
theorem d_47_116 : decode c_47 116 = .ok (.iconst (1), 1) := by decide +kernel
theorem d_47_117 : decode c_47 117 = .ok (.if_icmp .ne (7), 3) := by decide +kernel
theorem d_47_120 : decode c_47 120 = .ok (.iconst (1), 1) := by decide +kernel
theorem d_47_121 : decode c_47 121 = .ok (.goto (4), 3) := by decide +kernel
theorem d_47_124 : decode c_47 124 = .ok (.iconst (0), 1) := by decide +kernel
theorem d_47_125 : decode c_47 125 = .ok (.ireturn, 1) := by decide +kernel
set_option maxRecDepth 4000 in
theorem b_47_0 {mc ms : Nat} {X : Option (Nat × (Nat → Int32))} {T : aj_Tt} {Q : aj_Q} {J : aj_J} (hJ : aj_Cl 1 c_47 (some .boolean) false mc ms X T Q J) {o0 : Nat} {q0 : Nat} {nk1 : Nat} {q1 : Nat} {nk3 : Nat} {Z : aj_Z} {I : aj_I} {G : aj_G} {C : Nat × Nat} (k0 : Z.2.1 o0 = some (.inl 1)) (h0 : ¬ (I o0 8) = 3 → ¬ (I o0 8) = 2 → (I o0 8) = 1 → Q (some (.int 1)) Z I G) (h1 : ¬ (I o0 8) = 3 → ¬ (I o0 8) = 2 → ¬ (I o0 8) = 1 → ¬ (I o0 11) = 1 → Q (some (.int 0)) Z I G) (h2 : ¬ (I o0 8) = 3 → ¬ (I o0 8) = 2 → ¬ (I o0 8) = 1 → (I o0 11) = 1 → ¬ (I o0 12) = 1 → Q (some (.int 0)) Z I G) (h3 : ¬ (I o0 8) = 3 → ¬ (I o0 8) = 2 → ¬ (I o0 8) = 1 → (I o0 11) = 1 → (I o0 12) = 1 → Q (some (.int 1)) Z I G) (r0 : Z.2.2 o0 16 = .ref q0) (k1 : Z.2.1 q0 = some (.inr (0, nk1))) (h4 : ¬ (I o0 8) = 3 → (I o0 8) = 2 → vp_in ((I o0 15) - 1) nk1) (h5 : ¬ (I o0 8) = 3 → (I o0 8) = 2 → (I q0 (Int32.toNatClampNeg ((I o0 15) - 1))) < 0 → Q (some (.int 0)) Z I G) (h6 : ¬ (I o0 8) = 3 → (I o0 8) = 2 → ¬ (I q0 (Int32.toNatClampNeg ((I o0 15) - 1))) < 0 → Q (some (.int 1)) Z I G) (r1 : Z.2.2 o0 17 = .ref q1) (k3 : Z.2.1 q1 = some (.inr (0, nk3))) (h7 : (I o0 8) = 3 → vp_in (4 * ((I o0 15) - 1)) nk3) (h8 : (I o0 8) = 3 → (I q1 (Int32.toNatClampNeg (4 * ((I o0 15) - 1)))) < 0 → Q (some (.int 0)) Z I G) (h9 : (I o0 8) = 3 → ¬ (I q1 (Int32.toNatClampNeg (4 * ((I o0 15) - 1)))) < 0 → vp_in ((4 * ((I o0 15) - 1)) + 1) nk3) (h10 : (I o0 8) = 3 → ¬ (I q1 (Int32.toNatClampNeg (4 * ((I o0 15) - 1)))) < 0 → (I q1 (Int32.toNatClampNeg ((4 * ((I o0 15) - 1)) + 1))) < 0 → Q (some (.int 0)) Z I G) (h11 : (I o0 8) = 3 → ¬ (I q1 (Int32.toNatClampNeg (4 * ((I o0 15) - 1)))) < 0 → ¬ (I q1 (Int32.toNatClampNeg ((4 * ((I o0 15) - 1)) + 1))) < 0 → vp_in ((4 * ((I o0 15) - 1)) + 2) nk3) (h12 : (I o0 8) = 3 → ¬ (I q1 (Int32.toNatClampNeg (4 * ((I o0 15) - 1)))) < 0 → ¬ (I q1 (Int32.toNatClampNeg ((4 * ((I o0 15) - 1)) + 1))) < 0 → (I q1 (Int32.toNatClampNeg ((4 * ((I o0 15) - 1)) + 2))) < 0 → Q (some (.int 0)) Z I G) (h13 : (I o0 8) = 3 → ¬ (I q1 (Int32.toNatClampNeg (4 * ((I o0 15) - 1)))) < 0 → ¬ (I q1 (Int32.toNatClampNeg ((4 * ((I o0 15) - 1)) + 1))) < 0 → ¬ (I q1 (Int32.toNatClampNeg ((4 * ((I o0 15) - 1)) + 2))) < 0 → vp_in ((4 * ((I o0 15) - 1)) + 3) nk3) (h14 : (I o0 8) = 3 → ¬ (I q1 (Int32.toNatClampNeg (4 * ((I o0 15) - 1)))) < 0 → ¬ (I q1 (Int32.toNatClampNeg ((4 * ((I o0 15) - 1)) + 1))) < 0 → ¬ (I q1 (Int32.toNatClampNeg ((4 * ((I o0 15) - 1)) + 2))) < 0 → (I q1 (Int32.toNatClampNeg ((4 * ((I o0 15) - 1)) + 3))) < 0 → Q (some (.int 0)) Z I G) (h15 : (I o0 8) = 3 → ¬ (I q1 (Int32.toNatClampNeg (4 * ((I o0 15) - 1)))) < 0 → ¬ (I q1 (Int32.toNatClampNeg ((4 * ((I o0 15) - 1)) + 1))) < 0 → ¬ (I q1 (Int32.toNatClampNeg ((4 * ((I o0 15) - 1)) + 2))) < 0 → ¬ (I q1 (Int32.toNatClampNeg ((4 * ((I o0 15) - 1)) + 3))) < 0 → Q (some (.int 1)) Z I G) : J 0 [some (.ref o0), none] [] Z I G C := by
  refine s_aload_n hJ d_47_0 rfl ?_
  refine s_geti hJ lf_1_161 rfl d_47_1 k0 ?_
  refine s_iconst_1 hJ d_47_4 ?_
  refine s_isub hJ d_47_5 ?_
  refine s_istore_n hJ d_47_6 (Nat.le_of_ble_eq_true rfl) ?_
  refine s_aload_n hJ d_47_7 rfl ?_
  refine s_geti hJ lf_1_152 rfl d_47_8 k0 ?_
  refine s_iconst_3 hJ d_47_11 ?_
  refine s_icmp_ne (tgt := 71) hJ d_47_12 rfl (fun c0 => ?_) (fun c0 => ?_)
  · skip
    refine s_aload_n hJ d_47_71 rfl ?_
    refine s_geti hJ lf_1_152 rfl d_47_72 k0 ?_
    refine s_iconst_2 hJ d_47_75 ?_
    refine s_icmp_ne (tgt := 96) hJ d_47_76 rfl (fun c1 => ?_) (fun c1 => ?_)
    · skip
      refine s_aload_n hJ d_47_96 rfl ?_
      refine s_geti hJ lf_1_152 rfl d_47_97 k0 ?_
      refine s_iconst_1 hJ d_47_100 ?_
      refine s_icmp_eq (tgt := 120) hJ d_47_101 rfl (fun c2 => ?_) (fun c2 => ?_)
      · skip
        refine s_iconst_1 hJ d_47_120 ?_
        refine s_goto (tgt := 125) hJ d_47_121 rfl ?_
        exact s_iret hJ d_47_125 rfl rfl (h0 c0 c1 c2)
      · skip
        refine s_aload_n hJ d_47_104 rfl ?_
        refine s_geti hJ lf_1_155 rfl d_47_105 k0 ?_
        refine s_iconst_1 hJ d_47_108 ?_
        refine s_icmp_ne (tgt := 124) hJ d_47_109 rfl (fun c3 => ?_) (fun c3 => ?_)
        · skip
          refine s_iconst_0 hJ d_47_124 ?_
          exact s_iret hJ d_47_125 rfl rfl (h1 c0 c1 c2 c3)
        · skip
          refine s_aload_n hJ d_47_112 rfl ?_
          refine s_geti hJ lf_1_158 rfl d_47_113 k0 ?_
          refine s_iconst_1 hJ d_47_116 ?_
          refine s_icmp_ne (tgt := 124) hJ d_47_117 rfl (fun c4 => ?_) (fun c4 => ?_)
          · skip
            refine s_iconst_0 hJ d_47_124 ?_
            exact s_iret hJ d_47_125 rfl rfl (h2 c0 c1 c2 c3 c4)
          · skip
            refine s_iconst_1 hJ d_47_120 ?_
            refine s_goto (tgt := 125) hJ d_47_121 rfl ?_
            exact s_iret hJ d_47_125 rfl rfl (h3 c0 c1 c2 c3 c4)
    · skip
      refine s_aload_n hJ d_47_79 rfl ?_
      refine s_getr hJ lf_1_36 rfl d_47_80 k0 r0 ?_
      refine s_iload_n hJ d_47_83 rfl ?_
      refine s_iald hJ d_47_84 k1 (h4 c0 c1) ?_
      refine s_if_lt (tgt := 92) hJ d_47_85 rfl (fun c2 => ?_) (fun c2 => ?_)
      · skip
        refine s_iconst_0 hJ d_47_92 ?_
        refine s_goto (tgt := 125) hJ d_47_93 rfl ?_
        exact s_iret hJ d_47_125 rfl rfl (h5 c0 c1 c2)
      · skip
        refine s_iconst_1 hJ d_47_88 ?_
        refine s_goto (tgt := 125) hJ d_47_89 rfl ?_
        exact s_iret hJ d_47_125 rfl rfl (h6 c0 c1 c2)
  · skip
    refine s_aload_n hJ d_47_15 rfl ?_
    refine s_getr hJ lf_1_39 rfl d_47_16 k0 r1 ?_
    refine s_iconst_4 hJ d_47_19 ?_
    refine s_iload_n hJ d_47_20 rfl ?_
    refine s_imul hJ d_47_21 ?_
    refine s_iald hJ d_47_22 k3 (h7 c0) ?_
    refine s_if_lt (tgt := 69) hJ d_47_23 rfl (fun c1 => ?_) (fun c1 => ?_)
    · skip
      refine s_iconst_0 hJ d_47_69 ?_
      exact s_iret hJ d_47_70 rfl rfl (h8 c0 c1)
    · skip
      refine s_aload_n hJ d_47_26 rfl ?_
      refine s_getr hJ lf_1_39 rfl d_47_27 k0 r1 ?_
      refine s_iconst_4 hJ d_47_30 ?_
      refine s_iload_n hJ d_47_31 rfl ?_
      refine s_imul hJ d_47_32 ?_
      refine s_iconst_1 hJ d_47_33 ?_
      refine s_iadd hJ d_47_34 ?_
      refine s_iald hJ d_47_35 k3 (h9 c0 c1) ?_
      refine s_if_lt (tgt := 69) hJ d_47_36 rfl (fun c2 => ?_) (fun c2 => ?_)
      · skip
        refine s_iconst_0 hJ d_47_69 ?_
        exact s_iret hJ d_47_70 rfl rfl (h10 c0 c1 c2)
      · skip
        refine s_aload_n hJ d_47_39 rfl ?_
        refine s_getr hJ lf_1_39 rfl d_47_40 k0 r1 ?_
        refine s_iconst_4 hJ d_47_43 ?_
        refine s_iload_n hJ d_47_44 rfl ?_
        refine s_imul hJ d_47_45 ?_
        refine s_iconst_2 hJ d_47_46 ?_
        refine s_iadd hJ d_47_47 ?_
        refine s_iald hJ d_47_48 k3 (h11 c0 c1 c2) ?_
        refine s_if_lt (tgt := 69) hJ d_47_49 rfl (fun c3 => ?_) (fun c3 => ?_)
        · skip
          refine s_iconst_0 hJ d_47_69 ?_
          exact s_iret hJ d_47_70 rfl rfl (h12 c0 c1 c2 c3)
        · skip
          refine s_aload_n hJ d_47_52 rfl ?_
          refine s_getr hJ lf_1_39 rfl d_47_53 k0 r1 ?_
          refine s_iconst_4 hJ d_47_56 ?_
          refine s_iload_n hJ d_47_57 rfl ?_
          refine s_imul hJ d_47_58 ?_
          refine s_iconst_3 hJ d_47_59 ?_
          refine s_iadd hJ d_47_60 ?_
          refine s_iald hJ d_47_61 k3 (h13 c0 c1 c2 c3) ?_
          refine s_if_lt (tgt := 69) hJ d_47_62 rfl (fun c4 => ?_) (fun c4 => ?_)
          · skip
            refine s_iconst_0 hJ d_47_69 ?_
            exact s_iret hJ d_47_70 rfl rfl (h14 c0 c1 c2 c3 c4)
          · skip
            refine s_iconst_1 hJ d_47_65 ?_
            refine s_goto (tgt := 70) hJ d_47_66 rfl ?_
            exact s_iret hJ d_47_70 rfl rfl (h15 c0 c1 c2 c3 c4)
-- ReelOfBoxesModel.tell(II)I : method 48
theorem d_48_0 : decode c_48 0 = .ok (.aload_n 0, 1) := by decide +kernel
theorem d_48_1 : decode c_48 1 = .ok (.iload_n 2, 1) := by decide +kernel
theorem d_48_2 : decode c_48 2 = .ok (.putfield 26, 3) := by decide +kernel
theorem d_48_5 : decode c_48 5 = .ok (.iload_n 1, 1) := by decide +kernel
theorem d_48_6 : decode c_48 6 = .ok (.ireturn, 1) := by decide +kernel
set_option maxRecDepth 4000 in
theorem b_48_0 {mc ms : Nat} {X : Option (Nat × (Nat → Int32))} {T : aj_Tt} {Q : aj_Q} {J : aj_J} (hJ : aj_Cl 1 c_48 (some .int) false mc ms X T Q J) {o0 : Nat} {x1 : Int32} {x2 : Int32} {Z : aj_Z} {I : aj_I} {G : aj_G} {C : Nat × Nat} (k0 : Z.2.1 o0 = some (.inl 1)) (h0 : Q (some (.int x1)) Z (aj_u2 I o0 7 x2) G) : J 0 [some (.ref o0), some (.int x1), some (.int x2)] [] Z I G C := by
  refine s_aload_n hJ d_48_0 rfl ?_
  refine s_iload_n hJ d_48_1 rfl ?_
  refine s_puti hJ lf_1_26 rfl d_48_2 k0 ?_
  refine s_iload_n hJ d_48_5 rfl ?_
  exact s_iret hJ d_48_6 rfl rfl (h0)
-- ReelOfBoxesModel.readBoxes()I : method 49
theorem d_49_0 : decode c_49 0 = .ok (.aload_n 0, 1) := by decide +kernel
theorem d_49_1 : decode c_49 1 = .ok (.iconst (0), 1) := by decide +kernel
theorem d_49_2 : decode c_49 2 = .ok (.putfield 152, 3) := by decide +kernel
theorem d_49_5 : decode c_49 5 = .ok (.aload_n 0, 1) := by decide +kernel
theorem d_49_6 : decode c_49 6 = .ok (.getfield 30, 3) := by decide +kernel
theorem d_49_9 : decode c_49 9 = .ok (.iconst (0), 1) := by decide +kernel
theorem d_49_10 : decode c_49 10 = .ok (.iconst (0), 1) := by decide +kernel
theorem d_49_11 : decode c_49 11 = .ok (.iastore, 1) := by decide +kernel
theorem d_49_12 : decode c_49 12 = .ok (.aload_n 0, 1) := by decide +kernel
theorem d_49_13 : decode c_49 13 = .ok (.getfield 33, 3) := by decide +kernel
theorem d_49_16 : decode c_49 16 = .ok (.iconst (0), 1) := by decide +kernel
theorem d_49_17 : decode c_49 17 = .ok (.aload_n 0, 1) := by decide +kernel
theorem d_49_18 : decode c_49 18 = .ok (.getfield 71, 3) := by decide +kernel
theorem d_49_21 : decode c_49 21 = .ok (.iastore, 1) := by decide +kernel
theorem d_49_22 : decode c_49 22 = .ok (.aload_n 0, 1) := by decide +kernel
theorem d_49_23 : decode c_49 23 = .ok (.iconst (0), 1) := by decide +kernel
theorem d_49_24 : decode c_49 24 = .ok (.putfield 155, 3) := by decide +kernel
theorem d_49_27 : decode c_49 27 = .ok (.aload_n 0, 1) := by decide +kernel
theorem d_49_28 : decode c_49 28 = .ok (.iconst (0), 1) := by decide +kernel
theorem d_49_29 : decode c_49 29 = .ok (.putfield 158, 3) := by decide +kernel
theorem d_49_32 : decode c_49 32 = .ok (.aload_n 0, 1) := by decide +kernel
theorem d_49_33 : decode c_49 33 = .ok (.iconst (0), 1) := by decide +kernel
theorem d_49_34 : decode c_49 34 = .ok (.putfield 161, 3) := by decide +kernel
theorem d_49_37 : decode c_49 37 = .ok (.iconst (0), 1) := by decide +kernel
theorem d_49_38 : decode c_49 38 = .ok (.istore_n 1, 1) := by decide +kernel
theorem d_49_39 : decode c_49 39 = .ok (.aload_n 0, 1) := by decide +kernel
theorem d_49_40 : decode c_49 40 = .ok (.getfield 152, 3) := by decide +kernel
theorem d_49_43 : decode c_49 43 = .ok (.ifCond .lt (155), 3) := by decide +kernel
theorem d_49_46 : decode c_49 46 = .ok (.iload_n 1, 1) := by decide +kernel
theorem d_49_47 : decode c_49 47 = .ok (.aload_n 0, 1) := by decide +kernel
theorem d_49_48 : decode c_49 48 = .ok (.getfield 33, 3) := by decide +kernel
theorem d_49_51 : decode c_49 51 = .ok (.aload_n 0, 1) := by decide +kernel
theorem d_49_52 : decode c_49 52 = .ok (.getfield 152, 3) := by decide +kernel
theorem d_49_55 : decode c_49 55 = .ok (.iaload, 1) := by decide +kernel
theorem d_49_56 : decode c_49 56 = .ok (.if_icmp .ne (38), 3) := by decide +kernel
theorem d_49_59 : decode c_49 59 = .ok (.aload_n 0, 1) := by decide +kernel
theorem d_49_60 : decode c_49 60 = .ok (.invokevirtual 173, 3) := by decide +kernel
theorem d_49_63 : decode c_49 63 = .ok (.ifCond .ne (18), 3) := by decide +kernel
theorem d_49_66 : decode c_49 66 = .ok (.aload_n 0, 1) := by decide +kernel
theorem d_49_67 : decode c_49 67 = .ok (.iconst (3), 1) := by decide +kernel
theorem d_49_68 : decode c_49 68 = .ok (.aload_n 0, 1) := by decide +kernel
theorem d_49_69 : decode c_49 69 = .ok (.getfield 30, 3) := by decide +kernel
theorem d_49_72 : decode c_49 72 = .ok (.aload_n 0, 1) := by decide +kernel
theorem d_49_73 : decode c_49 73 = .ok (.getfield 152, 3) := by decide +kernel
theorem d_49_76 : decode c_49 76 = .ok (.iaload, 1) := by decide +kernel
theorem d_49_77 : decode c_49 77 = .ok (.invokevirtual 177, 3) := by decide +kernel
theorem d_49_80 : decode c_49 80 = .ok (.ireturn, 1) := by decide +kernel
theorem d_49_81 : decode c_49 81 = .ok (.aload_n 0, 1) := by decide +kernel
theorem d_49_82 : decode c_49 82 = .ok (.aload_n 0, 1) := by decide +kernel
theorem d_49_83 : decode c_49 83 = .ok (.getfield 152, 3) := by decide +kernel
theorem d_49_86 : decode c_49 86 = .ok (.iconst (1), 1) := by decide +kernel
theorem d_49_87 : decode c_49 87 = .ok (.isub, 1) := by decide +kernel
theorem d_49_88 : decode c_49 88 = .ok (.putfield 152, 3) := by decide +kernel
theorem d_49_91 : decode c_49 91 = .ok (.goto (-52), 3) := by decide +kernel
theorem d_49_94 : decode c_49 94 = .ok (.aload_n 0, 1) := by decide +kernel
theorem d_49_95 : decode c_49 95 = .ok (.iload_n 1, 1) := by decide +kernel
theorem d_49_96 : decode c_49 96 = .ok (.aload_n 0, 1) := by decide +kernel
theorem d_49_97 : decode c_49 97 = .ok (.getfield 33, 3) := by decide +kernel
theorem d_49_100 : decode c_49 100 = .ok (.aload_n 0, 1) := by decide +kernel
theorem d_49_101 : decode c_49 101 = .ok (.getfield 152, 3) := by decide +kernel
theorem d_49_104 : decode c_49 104 = .ok (.iaload, 1) := by decide +kernel
theorem d_49_105 : decode c_49 105 = .ok (.invokevirtual 180, 3) := by decide +kernel
theorem d_49_108 : decode c_49 108 = .ok (.ifCond .ne (10), 3) := by decide +kernel
theorem d_49_111 : decode c_49 111 = .ok (.aload_n 0, 1) := by decide +kernel
theorem d_49_112 : decode c_49 112 = .ok (.iconst (1), 1) := by decide +kernel
theorem d_49_113 : decode c_49 113 = .ok (.iload_n 1, 1) := by decide +kernel
theorem d_49_114 : decode c_49 114 = .ok (.invokevirtual 177, 3) := by decide +kernel
theorem d_49_117 : decode c_49 117 = .ok (.ireturn, 1) := by decide +kernel
theorem d_49_118 : decode c_49 118 = .ok (.aload_n 0, 1) := by decide +kernel
theorem d_49_119 : decode c_49 119 = .ok (.invokevirtual 184, 3) := by decide +kernel
theorem d_49_122 : decode c_49 122 = .ok (.ifCond .eq (10), 3) := by decide +kernel
theorem d_49_125 : decode c_49 125 = .ok (.aload_n 0, 1) := by decide +kernel
theorem d_49_126 : decode c_49 126 = .ok (.iconst (2), 1) := by decide +kernel
theorem d_49_127 : decode c_49 127 = .ok (.iload_n 1, 1) := by decide +kernel
theorem d_49_128 : decode c_49 128 = .ok (.invokevirtual 177, 3) := by decide +kernel
theorem d_49_131 : decode c_49 131 = .ok (.ireturn, 1) := by decide +kernel
theorem d_49_132 : decode c_49 132 = .ok (.aload_n 0, 1) := by decide +kernel
theorem d_49_133 : decode c_49 133 = .ok (.iload_n 1, 1) := by decide +kernel
theorem d_49_134 : decode c_49 134 = .ok (.invokevirtual 187, 3) := by decide +kernel
theorem d_49_137 : decode c_49 137 = .ok (.aload_n 0, 1) := by decide +kernel
theorem d_49_138 : decode c_49 138 = .ok (.invokevirtual 190, 3) := by decide +kernel
theorem d_49_141 : decode c_49 141 = .ok (.istore_n 2, 1) := by decide +kernel
theorem d_49_142 : decode c_49 142 = .ok (.iload_n 2, 1) := by decide +kernel
theorem d_49_143 : decode c_49 143 = .ok (.ifCond .eq (36), 3) := by decide +kernel
theorem d_49_146 : decode c_49 146 = .ok (.aload_n 0, 1) := by decide +kernel
theorem d_49_147 : decode c_49 147 = .ok (.aload_n 0, 1) := by decide +kernel
theorem d_49_148 : decode c_49 148 = .ok (.getfield 152, 3) := by decide +kernel
theorem d_49_151 : decode c_49 151 = .ok (.iconst (1), 1) := by decide +kernel
theorem d_49_152 : decode c_49 152 = .ok (.iadd, 1) := by decide +kernel
theorem d_49_153 : decode c_49 153 = .ok (.putfield 152, 3) := by decide +kernel
theorem d_49_156 : decode c_49 156 = .ok (.aload_n 0, 1) := by decide +kernel
theorem d_49_157 : decode c_49 157 = .ok (.getfield 30, 3) := by decide +kernel
theorem d_49_160 : decode c_49 160 = .ok (.aload_n 0, 1) := by decide +kernel
theorem d_49_161 : decode c_49 161 = .ok (.getfield 152, 3) := by decide +kernel
theorem d_49_164 : decode c_49 164 = .ok (.iload_n 1, 1) := by decide +kernel
theorem d_49_165 : decode c_49 165 = .ok (.iastore, 1) := by decide +kernel
theorem d_49_166 : decode c_49 166 = .ok (.aload_n 0, 1) := by decide +kernel
theorem d_49_167 : decode c_49 167 = .ok (.getfield 33, 3) := by decide +kernel
theorem d_49_170 : decode c_49 170 = .ok (.aload_n 0, 1) := by decide +kernel
theorem d_49_171 : decode c_49 171 = .ok (.getfield 152, 3) := by decide +kernel
theorem d_49_174 : decode c_49 174 = .ok (.aload_n 0, 1) := by decide +kernel
theorem d_49_175 : decode c_49 175 = .ok (.getfield 149, 3) := by decide +kernel
theorem d_49_178 : decode c_49 178 = .ok (.iastore, 1) := by decide +kernel
theorem d_49_179 : decode c_49 179 = .ok (.iload_n 2, 1) := by decide +kernel
theorem d_49_180 : decode c_49 180 = .ok (.ifCond .eq (10), 3) := by decide +kernel
theorem d_49_183 : decode c_49 183 = .ok (.aload_n 0, 1) := by decide +kernel
theorem d_49_184 : decode c_49 184 = .ok (.getfield 146, 3) := by decide +kernel
theorem d_49_187 : decode c_49 187 = .ok (.goto (7), 3) := by decide +kernel
theorem d_49_190 : decode c_49 190 = .ok (.aload_n 0, 1) := by decide +kernel
theorem d_49_191 : decode c_49 191 = .ok (.getfield 149, 3) := by decide +kernel
theorem d_49_194 : decode c_49 194 = .ok (.istore_n 1, 1) := by decide +kernel
theorem d_49_195 : decode c_49 195 = .ok (.goto (-156), 3) := by decide +kernel
theorem d_49_198 : decode c_49 198 = .ok (.iconst (0), 1) := by decide +kernel
theorem d_49_199 : decode c_49 199 = .ok (.ireturn, 1) := by decide +kernel
set_option maxRecDepth 4000 in
theorem b_49_0 {mc ms : Nat} {X : Option (Nat × (Nat → Int32))} {T : aj_Tt} {Q : aj_Q} {J : aj_J} (hJ : aj_Cl 1 c_49 (some .int) false mc ms X T Q J) {o0 : Nat} {q0 : Nat} {nk1 : Nat} {q1 : Nat} {nk3 : Nat} {Z : aj_Z} {I : aj_I} {G : aj_G} {C : Nat × Nat} (k0 : Z.2.1 o0 = some (.inl 1)) (r0 : Z.2.2 o0 9 = .ref q0) (k1 : Z.2.1 q0 = some (.inr (0, nk1))) (h0 : vp_in 0 nk1) (r1 : Z.2.2 o0 10 = .ref q1) (k3 : Z.2.1 q1 = some (.inr (0, nk3))) (h1 : vp_in 0 nk3) (h2 : J 39 [some (.ref o0), some (.int 0), none] [] Z (aj_u2 (aj_u2 (aj_u2 (aj_u2 (aj_u2 (aj_u2 I o0 8 0) q0 (Int32.toNatClampNeg 0) 0) q1 (Int32.toNatClampNeg 0) ((aj_u2 (aj_u2 I o0 8 0) q0 (Int32.toNatClampNeg 0) 0) o0 5)) o0 11 0) o0 12 0) o0 15 0) G C) : J 0 [some (.ref o0), none, none] [] Z I G C := by
  refine s_aload_n hJ d_49_0 rfl ?_
  refine s_iconst_0 hJ d_49_1 ?_
  refine s_puti hJ lf_1_152 rfl d_49_2 k0 ?_
  refine s_aload_n hJ d_49_5 rfl ?_
  refine s_getr hJ lf_1_30 rfl d_49_6 k0 r0 ?_
  refine s_iconst_0 hJ d_49_9 ?_
  refine s_iconst_0 hJ d_49_10 ?_
  refine s_iast hJ d_49_11 k1 (h0) ?_
  refine s_aload_n hJ d_49_12 rfl ?_
  refine s_getr hJ lf_1_33 rfl d_49_13 k0 r1 ?_
  refine s_iconst_0 hJ d_49_16 ?_
  refine s_aload_n hJ d_49_17 rfl ?_
  refine s_geti hJ lf_1_71 rfl d_49_18 k0 ?_
  refine s_iast hJ d_49_21 k3 (h1) ?_
  refine s_aload_n hJ d_49_22 rfl ?_
  refine s_iconst_0 hJ d_49_23 ?_
  refine s_puti hJ lf_1_155 rfl d_49_24 k0 ?_
  refine s_aload_n hJ d_49_27 rfl ?_
  refine s_iconst_0 hJ d_49_28 ?_
  refine s_puti hJ lf_1_158 rfl d_49_29 k0 ?_
  refine s_aload_n hJ d_49_32 rfl ?_
  refine s_iconst_0 hJ d_49_33 ?_
  refine s_puti hJ lf_1_161 rfl d_49_34 k0 ?_
  refine s_iconst_0 hJ d_49_37 ?_
  refine s_istore_n hJ d_49_38 (Nat.le_of_ble_eq_true rfl) ?_
  exact h2
set_option maxRecDepth 4000 in
theorem b_49_39 {mc ms : Nat} {X : Option (Nat × (Nat → Int32))} {T : aj_Tt} {Q : aj_Q} {J : aj_J} (hJ : aj_Cl 1 c_49 (some .int) false mc ms X T Q J) {o0 : Nat} {x1 : Int32} {w2 : Option Value} {q0 : Nat} {nk1 : Nat} {Z : aj_Z} {I : aj_I} {G : aj_G} {C : Nat × Nat} (k0 : Z.2.1 o0 = some (.inl 1)) (h0 : (I o0 8) < 0 → Q (some (.int 0)) Z I G) (r0 : Z.2.2 o0 10 = .ref q0) (k1 : Z.2.1 q0 = some (.inr (0, nk1))) (h1 : ¬ (I o0 8) < 0 → vp_in (I o0 8) nk1) (h2 : ¬ (I o0 8) < 0 → ¬ x1 = (I q0 (Int32.toNatClampNeg (I o0 8))) → vp_in (I o0 8) nk1) (h3 : ¬ (I o0 8) < 0 → ¬ x1 = (I q0 (Int32.toNatClampNeg (I o0 8))) → T 0 0 42 [.ref o0, .int x1, .int (I q0 (Int32.toNatClampNeg (I o0 8)))] Z I G (fun r Z1 I1 G1 => J 108 [some (.ref o0), some (.int x1), w2] (r.toList ++ []) Z1 I1 G1 C)) (h4 : ¬ (I o0 8) < 0 → x1 = (I q0 (Int32.toNatClampNeg (I o0 8))) → T 0 0 47 [.ref o0] Z I G (fun r Z1 I1 G1 => J 63 [some (.ref o0), some (.int x1), w2] (r.toList ++ []) Z1 I1 G1 C)) : J 39 [some (.ref o0), some (.int x1), w2] [] Z I G C := by
  refine s_aload_n hJ d_49_39 rfl ?_
  refine s_geti hJ lf_1_152 rfl d_49_40 k0 ?_
  refine s_if_lt (tgt := 198) hJ d_49_43 rfl (fun c0 => ?_) (fun c0 => ?_)
  · skip
    refine s_iconst_0 hJ d_49_198 ?_
    exact s_iret hJ d_49_199 rfl rfl (h0 c0)
  · skip
    refine s_iload_n hJ d_49_46 rfl ?_
    refine s_aload_n hJ d_49_47 rfl ?_
    refine s_getr hJ lf_1_33 rfl d_49_48 k0 r0 ?_
    refine s_aload_n hJ d_49_51 rfl ?_
    refine s_geti hJ lf_1_152 rfl d_49_52 k0 ?_
    refine s_iald hJ d_49_55 k1 (h1 c0) ?_
    refine s_icmp_ne (tgt := 94) hJ d_49_56 rfl (fun c1 => ?_) (fun c1 => ?_)
    · skip
      refine s_aload_n hJ d_49_94 rfl ?_
      refine s_iload_n hJ d_49_95 rfl ?_
      refine s_aload_n hJ d_49_96 rfl ?_
      refine s_getr hJ lf_1_33 rfl d_49_97 k0 r0 ?_
      refine s_aload_n hJ d_49_100 rfl ?_
      refine s_geti hJ lf_1_152 rfl d_49_101 k0 ?_
      refine s_iald hJ d_49_104 k1 (h2 c0 c1) ?_
      exact s_V2 hJ lm_1_180 d_49_105 (Nat.le_of_ble_eq_true rfl) k0 (h3 c0 c1)
    · skip
      refine s_aload_n hJ d_49_59 rfl ?_
      exact s_V0 hJ lm_1_173 d_49_60 (Nat.le_of_ble_eq_true rfl) k0 (h4 c0 c1)
set_option maxRecDepth 4000 in
theorem b_49_63 {mc ms : Nat} {X : Option (Nat × (Nat → Int32))} {T : aj_Tt} {Q : aj_Q} {J : aj_J} (hJ : aj_Cl 1 c_49 (some .int) false mc ms X T Q J) {o0 : Nat} {x1 : Int32} {w2 : Option Value} {s0 : Int32} {q0 : Nat} {nk1 : Nat} {Z : aj_Z} {I : aj_I} {G : aj_G} {C : Nat × Nat} (k0 : Z.2.1 o0 = some (.inl 1)) (h0 : ¬ s0 = 0 → J 39 [some (.ref o0), some (.int x1), w2] [] Z (aj_u2 I o0 8 ((I o0 8) - 1)) G C) (r0 : Z.2.2 o0 9 = .ref q0) (k1 : Z.2.1 q0 = some (.inr (0, nk1))) (h1 : s0 = 0 → vp_in (I o0 8) nk1) (h2 : s0 = 0 → T 0 0 48 [.ref o0, .int 3, .int (I q0 (Int32.toNatClampNeg (I o0 8)))] Z I G (fun r Z1 I1 G1 => J 80 [some (.ref o0), some (.int x1), w2] (r.toList ++ []) Z1 I1 G1 C)) : J 63 [some (.ref o0), some (.int x1), w2] [.int s0] Z I G C := by
  refine s_if_ne (tgt := 81) hJ d_49_63 rfl (fun c0 => ?_) (fun c0 => ?_)
  · skip
    refine s_aload_n hJ d_49_81 rfl ?_
    refine s_aload_n hJ d_49_82 rfl ?_
    refine s_geti hJ lf_1_152 rfl d_49_83 k0 ?_
    refine s_iconst_1 hJ d_49_86 ?_
    refine s_isub hJ d_49_87 ?_
    refine s_puti hJ lf_1_152 rfl d_49_88 k0 ?_
    refine s_goto (tgt := 39) hJ d_49_91 rfl ?_
    exact h0 c0
  · skip
    refine s_aload_n hJ d_49_66 rfl ?_
    refine s_iconst_3 hJ d_49_67 ?_
    refine s_aload_n hJ d_49_68 rfl ?_
    refine s_getr hJ lf_1_30 rfl d_49_69 k0 r0 ?_
    refine s_aload_n hJ d_49_72 rfl ?_
    refine s_geti hJ lf_1_152 rfl d_49_73 k0 ?_
    refine s_iald hJ d_49_76 k1 (h1 c0) ?_
    exact s_V2 hJ lm_1_177 d_49_77 (Nat.le_of_ble_eq_true rfl) k0 (h2 c0)
set_option maxRecDepth 4000 in
theorem b_49_80 {mc ms : Nat} {X : Option (Nat × (Nat → Int32))} {T : aj_Tt} {Q : aj_Q} {J : aj_J} (hJ : aj_Cl 1 c_49 (some .int) false mc ms X T Q J) {w0 : Option Value} {w1 : Option Value} {w2 : Option Value} {s0 : Int32} {Z : aj_Z} {I : aj_I} {G : aj_G} {C : Nat × Nat} (h0 : Q (some (.int s0)) Z I G) : J 80 [w0, w1, w2] [.int s0] Z I G C := by
  exact s_iret hJ d_49_80 rfl rfl (h0)
set_option maxRecDepth 4000 in
theorem b_49_108 {mc ms : Nat} {X : Option (Nat × (Nat → Int32))} {T : aj_Tt} {Q : aj_Q} {J : aj_J} (hJ : aj_Cl 1 c_49 (some .int) false mc ms X T Q J) {o0 : Nat} {x1 : Int32} {w2 : Option Value} {s0 : Int32} {Z : aj_Z} {I : aj_I} {G : aj_G} {C : Nat × Nat} (k0 : Z.2.1 o0 = some (.inl 1)) (h0 : ¬ s0 = 0 → T 0 0 44 [.ref o0] Z I G (fun r Z1 I1 G1 => J 122 [some (.ref o0), some (.int x1), w2] (r.toList ++ []) Z1 I1 G1 C)) (h1 : s0 = 0 → T 0 0 48 [.ref o0, .int 1, .int x1] Z I G (fun r Z1 I1 G1 => J 117 [some (.ref o0), some (.int x1), w2] (r.toList ++ []) Z1 I1 G1 C)) : J 108 [some (.ref o0), some (.int x1), w2] [.int s0] Z I G C := by
  refine s_if_ne (tgt := 118) hJ d_49_108 rfl (fun c0 => ?_) (fun c0 => ?_)
  · skip
    refine s_aload_n hJ d_49_118 rfl ?_
    exact s_V0 hJ lm_1_184 d_49_119 (Nat.le_of_ble_eq_true rfl) k0 (h0 c0)
  · skip
    refine s_aload_n hJ d_49_111 rfl ?_
    refine s_iconst_1 hJ d_49_112 ?_
    refine s_iload_n hJ d_49_113 rfl ?_
    exact s_V2 hJ lm_1_177 d_49_114 (Nat.le_of_ble_eq_true rfl) k0 (h1 c0)
set_option maxRecDepth 4000 in
theorem b_49_117 {mc ms : Nat} {X : Option (Nat × (Nat → Int32))} {T : aj_Tt} {Q : aj_Q} {J : aj_J} (hJ : aj_Cl 1 c_49 (some .int) false mc ms X T Q J) {w0 : Option Value} {w1 : Option Value} {w2 : Option Value} {s0 : Int32} {Z : aj_Z} {I : aj_I} {G : aj_G} {C : Nat × Nat} (h0 : Q (some (.int s0)) Z I G) : J 117 [w0, w1, w2] [.int s0] Z I G C := by
  exact s_iret hJ d_49_117 rfl rfl (h0)
set_option maxRecDepth 4000 in
theorem b_49_122 {mc ms : Nat} {X : Option (Nat × (Nat → Int32))} {T : aj_Tt} {Q : aj_Q} {J : aj_J} (hJ : aj_Cl 1 c_49 (some .int) false mc ms X T Q J) {o0 : Nat} {x1 : Int32} {w2 : Option Value} {s0 : Int32} {Z : aj_Z} {I : aj_I} {G : aj_G} {C : Nat × Nat} (k0 : Z.2.1 o0 = some (.inl 1)) (h0 : s0 = 0 → T 0 0 46 [.ref o0, .int x1] Z I G (fun r Z1 I1 G1 => J 137 [some (.ref o0), some (.int x1), w2] (r.toList ++ []) Z1 I1 G1 C)) (h1 : ¬ s0 = 0 → T 0 0 48 [.ref o0, .int 2, .int x1] Z I G (fun r Z1 I1 G1 => J 131 [some (.ref o0), some (.int x1), w2] (r.toList ++ []) Z1 I1 G1 C)) : J 122 [some (.ref o0), some (.int x1), w2] [.int s0] Z I G C := by
  refine s_if_eq (tgt := 132) hJ d_49_122 rfl (fun c0 => ?_) (fun c0 => ?_)
  · skip
    refine s_aload_n hJ d_49_132 rfl ?_
    refine s_iload_n hJ d_49_133 rfl ?_
    exact s_V1 hJ lm_1_187 d_49_134 (Nat.le_of_ble_eq_true rfl) k0 (h0 c0)
  · skip
    refine s_aload_n hJ d_49_125 rfl ?_
    refine s_iconst_2 hJ d_49_126 ?_
    refine s_iload_n hJ d_49_127 rfl ?_
    exact s_V2 hJ lm_1_177 d_49_128 (Nat.le_of_ble_eq_true rfl) k0 (h1 c0)
set_option maxRecDepth 4000 in
theorem b_49_131 {mc ms : Nat} {X : Option (Nat × (Nat → Int32))} {T : aj_Tt} {Q : aj_Q} {J : aj_J} (hJ : aj_Cl 1 c_49 (some .int) false mc ms X T Q J) {w0 : Option Value} {w1 : Option Value} {w2 : Option Value} {s0 : Int32} {Z : aj_Z} {I : aj_I} {G : aj_G} {C : Nat × Nat} (h0 : Q (some (.int s0)) Z I G) : J 131 [w0, w1, w2] [.int s0] Z I G C := by
  exact s_iret hJ d_49_131 rfl rfl (h0)
set_option maxRecDepth 4000 in
theorem b_49_137 {mc ms : Nat} {X : Option (Nat × (Nat → Int32))} {T : aj_Tt} {Q : aj_Q} {J : aj_J} (hJ : aj_Cl 1 c_49 (some .int) false mc ms X T Q J) {o0 : Nat} {x1 : Int32} {w2 : Option Value} {Z : aj_Z} {I : aj_I} {G : aj_G} {C : Nat × Nat} (k0 : Z.2.1 o0 = some (.inl 1)) (h0 : T 0 0 45 [.ref o0] Z I G (fun r Z1 I1 G1 => J 141 [some (.ref o0), some (.int x1), w2] (r.toList ++ []) Z1 I1 G1 C)) : J 137 [some (.ref o0), some (.int x1), w2] [] Z I G C := by
  refine s_aload_n hJ d_49_137 rfl ?_
  exact s_V0 hJ lm_1_190 d_49_138 (Nat.le_of_ble_eq_true rfl) k0 (h0)
set_option maxRecDepth 4000 in
theorem b_49_141 {mc ms : Nat} {X : Option (Nat × (Nat → Int32))} {T : aj_Tt} {Q : aj_Q} {J : aj_J} (hJ : aj_Cl 1 c_49 (some .int) false mc ms X T Q J) {o0 : Nat} {x1 : Int32} {w2 : Option Value} {s0 : Int32} {q0 : Nat} {nk1 : Nat} {q1 : Nat} {nk3 : Nat} {Z : aj_Z} {I : aj_I} {G : aj_G} {C : Nat × Nat} (h0 : s0 = 0 → J 179 [some (.ref o0), some (.int x1), some (.int s0)] [] Z I G C) (k0 : Z.2.1 o0 = some (.inl 1)) (r0 : Z.2.2 o0 9 = .ref q0) (k1 : Z.2.1 q0 = some (.inr (0, nk1))) (h1 : ¬ s0 = 0 → vp_in ((aj_u2 I o0 8 ((I o0 8) + 1)) o0 8) nk1) (r1 : Z.2.2 o0 10 = .ref q1) (k3 : Z.2.1 q1 = some (.inr (0, nk3))) (h2 : ¬ s0 = 0 → vp_in ((aj_u2 (aj_u2 I o0 8 ((I o0 8) + 1)) q0 (Int32.toNatClampNeg ((aj_u2 I o0 8 ((I o0 8) + 1)) o0 8)) x1) o0 8) nk3) (h3 : ¬ s0 = 0 → J 179 [some (.ref o0), some (.int x1), some (.int s0)] [] Z (aj_u2 (aj_u2 (aj_u2 I o0 8 ((I o0 8) + 1)) q0 (Int32.toNatClampNeg ((aj_u2 I o0 8 ((I o0 8) + 1)) o0 8)) x1) q1 (Int32.toNatClampNeg ((aj_u2 (aj_u2 I o0 8 ((I o0 8) + 1)) q0 (Int32.toNatClampNeg ((aj_u2 I o0 8 ((I o0 8) + 1)) o0 8)) x1) o0 8)) ((aj_u2 (aj_u2 I o0 8 ((I o0 8) + 1)) q0 (Int32.toNatClampNeg ((aj_u2 I o0 8 ((I o0 8) + 1)) o0 8)) x1) o0 23)) G C) : J 141 [some (.ref o0), some (.int x1), w2] [.int s0] Z I G C := by
  refine s_istore_n hJ d_49_141 (Nat.le_of_ble_eq_true rfl) ?_
  refine s_iload_n hJ d_49_142 rfl ?_
  refine s_if_eq (tgt := 179) hJ d_49_143 rfl (fun c0 => ?_) (fun c0 => ?_)
  · skip
    exact h0 c0
  · skip
    refine s_aload_n hJ d_49_146 rfl ?_
    refine s_aload_n hJ d_49_147 rfl ?_
    refine s_geti hJ lf_1_152 rfl d_49_148 k0 ?_
    refine s_iconst_1 hJ d_49_151 ?_
    refine s_iadd hJ d_49_152 ?_
    refine s_puti hJ lf_1_152 rfl d_49_153 k0 ?_
    refine s_aload_n hJ d_49_156 rfl ?_
    refine s_getr hJ lf_1_30 rfl d_49_157 k0 r0 ?_
    refine s_aload_n hJ d_49_160 rfl ?_
    refine s_geti hJ lf_1_152 rfl d_49_161 k0 ?_
    refine s_iload_n hJ d_49_164 rfl ?_
    refine s_iast hJ d_49_165 k1 (h1 c0) ?_
    refine s_aload_n hJ d_49_166 rfl ?_
    refine s_getr hJ lf_1_33 rfl d_49_167 k0 r1 ?_
    refine s_aload_n hJ d_49_170 rfl ?_
    refine s_geti hJ lf_1_152 rfl d_49_171 k0 ?_
    refine s_aload_n hJ d_49_174 rfl ?_
    refine s_geti hJ lf_1_149 rfl d_49_175 k0 ?_
    refine s_iast hJ d_49_178 k3 (h2 c0) ?_
    exact h3 c0
set_option maxRecDepth 4000 in
theorem b_49_179 {mc ms : Nat} {X : Option (Nat × (Nat → Int32))} {T : aj_Tt} {Q : aj_Q} {J : aj_J} (hJ : aj_Cl 1 c_49 (some .int) false mc ms X T Q J) {o0 : Nat} {w1 : Option Value} {x2 : Int32} {Z : aj_Z} {I : aj_I} {G : aj_G} {C : Nat × Nat} (k0 : Z.2.1 o0 = some (.inl 1)) (h0 : x2 = 0 → J 39 [some (.ref o0), some (.int (I o0 23)), some (.int x2)] [] Z I G C) (h1 : ¬ x2 = 0 → J 39 [some (.ref o0), some (.int (I o0 22)), some (.int x2)] [] Z I G C) : J 179 [some (.ref o0), w1, some (.int x2)] [] Z I G C := by
  refine s_iload_n hJ d_49_179 rfl ?_
  refine s_if_eq (tgt := 190) hJ d_49_180 rfl (fun c0 => ?_) (fun c0 => ?_)
  · skip
    refine s_aload_n hJ d_49_190 rfl ?_
    refine s_geti hJ lf_1_149 rfl d_49_191 k0 ?_
    refine s_istore_n hJ d_49_194 (Nat.le_of_ble_eq_true rfl) ?_
    refine s_goto (tgt := 39) hJ d_49_195 rfl ?_
    exact h0 c0
  · skip
    refine s_aload_n hJ d_49_183 rfl ?_
    refine s_geti hJ lf_1_146 rfl d_49_184 k0 ?_
    refine s_goto (tgt := 194) hJ d_49_187 rfl ?_
    refine s_istore_n hJ d_49_194 (Nat.le_of_ble_eq_true rfl) ?_
    refine s_goto (tgt := 39) hJ d_49_195 rfl ?_
    exact h1 c0
-- ReelOfBoxesModel.entrySize(II)I : method 50
theorem d_50_0 : decode c_50 0 = .ok (.iload_n 2, 1) := by decide +kernel
theorem d_50_1 : decode c_50 1 = .ok (.ifCond .ne (8), 3) := by decide +kernel
theorem d_50_4 : decode c_50 4 = .ok (.bipush (8), 2) := by decide +kernel
theorem d_50_6 : decode c_50 6 = .ok (.goto (37), 3) := by decide +kernel
theorem d_50_9 : decode c_50 9 = .ok (.iload_n 2, 1) := by decide +kernel
theorem d_50_10 : decode c_50 10 = .ok (.iconst (1), 1) := by decide +kernel
theorem d_50_11 : decode c_50 11 = .ok (.if_icmp .ne (8), 3) := by decide +kernel
theorem d_50_14 : decode c_50 14 = .ok (.bipush (12), 2) := by decide +kernel
theorem d_50_16 : decode c_50 16 = .ok (.goto (27), 3) := by decide +kernel
theorem d_50_19 : decode c_50 19 = .ok (.iload_n 2, 1) := by decide +kernel
theorem d_50_20 : decode c_50 20 = .ok (.iconst (2), 1) := by decide +kernel
theorem d_50_21 : decode c_50 21 = .ok (.if_icmp .ne (7), 3) := by decide +kernel
theorem d_50_24 : decode c_50 24 = .ok (.iconst (4), 1) := by decide +kernel
theorem d_50_25 : decode c_50 25 = .ok (.goto (18), 3) := by decide +kernel
theorem d_50_28 : decode c_50 28 = .ok (.aload_n 0, 1) := by decide +kernel
theorem d_50_29 : decode c_50 29 = .ok (.getfield 48, 3) := by decide +kernel
theorem d_50_32 : decode c_50 32 = .ok (.iload_n 1, 1) := by decide +kernel
theorem d_50_33 : decode c_50 33 = .ok (.baload, 1) := by decide +kernel
theorem d_50_34 : decode c_50 34 = .ok (.ifCond .eq (8), 3) := by decide +kernel
theorem d_50_37 : decode c_50 37 = .ok (.bipush (8), 2) := by decide +kernel
theorem d_50_39 : decode c_50 39 = .ok (.goto (4), 3) := by decide +kernel
theorem d_50_42 : decode c_50 42 = .ok (.iconst (4), 1) := by decide +kernel
theorem d_50_43 : decode c_50 43 = .ok (.ireturn, 1) := by decide +kernel
set_option maxRecDepth 4000 in
theorem b_50_0 {mc ms : Nat} {X : Option (Nat × (Nat → Int32))} {T : aj_Tt} {Q : aj_Q} {J : aj_J} (hJ : aj_Cl 1 c_50 (some .int) false mc ms X T Q J) {o0 : Nat} {x1 : Int32} {x2 : Int32} {q0 : Nat} {nk1 : Nat} {Z : aj_Z} {I : aj_I} {G : aj_G} {C : Nat × Nat} (k0 : Z.2.1 o0 = some (.inl 1)) (r0 : Z.2.2 o0 20 = .ref q0) (k1 : Z.2.1 q0 = some (.inr (3, nk1))) (h0 : ¬ x2 = 0 → ¬ x2 = 1 → ¬ x2 = 2 → vp_in x1 nk1) (h1 : ¬ x2 = 0 → ¬ x2 = 1 → ¬ x2 = 2 → (I q0 (Int32.toNatClampNeg x1)) = 0 → Q (some (.int 4)) Z I G) (h2 : ¬ x2 = 0 → ¬ x2 = 1 → ¬ x2 = 2 → ¬ (I q0 (Int32.toNatClampNeg x1)) = 0 → Q (some (.int 8)) Z I G) (h3 : ¬ x2 = 0 → ¬ x2 = 1 → x2 = 2 → Q (some (.int 4)) Z I G) (h4 : ¬ x2 = 0 → x2 = 1 → Q (some (.int 12)) Z I G) (h5 : x2 = 0 → Q (some (.int 8)) Z I G) : J 0 [some (.ref o0), some (.int x1), some (.int x2)] [] Z I G C := by
  refine s_iload_n hJ d_50_0 rfl ?_
  refine s_if_ne (tgt := 9) hJ d_50_1 rfl (fun c0 => ?_) (fun c0 => ?_)
  · skip
    refine s_iload_n hJ d_50_9 rfl ?_
    refine s_iconst_1 hJ d_50_10 ?_
    refine s_icmp_ne (tgt := 19) hJ d_50_11 rfl (fun c1 => ?_) (fun c1 => ?_)
    · skip
      refine s_iload_n hJ d_50_19 rfl ?_
      refine s_iconst_2 hJ d_50_20 ?_
      refine s_icmp_ne (tgt := 28) hJ d_50_21 rfl (fun c2 => ?_) (fun c2 => ?_)
      · skip
        refine s_aload_n hJ d_50_28 rfl ?_
        refine s_getr hJ lf_1_48 rfl d_50_29 k0 r0 ?_
        refine s_iload_n hJ d_50_32 rfl ?_
        refine s_zald hJ d_50_33 k1 (h0 c0 c1 c2) ?_
        refine s_if_eq (tgt := 42) hJ d_50_34 rfl (fun c3 => ?_) (fun c3 => ?_)
        · skip
          refine s_iconst_4 hJ d_50_42 ?_
          exact s_iret hJ d_50_43 rfl rfl (h1 c0 c1 c2 c3)
        · skip
          refine s_bipush (v := 8) hJ d_50_37 (by decide) ?_
          refine s_goto (tgt := 43) hJ d_50_39 rfl ?_
          exact s_iret hJ d_50_43 rfl rfl (h2 c0 c1 c2 c3)
      · skip
        refine s_iconst_4 hJ d_50_24 ?_
        refine s_goto (tgt := 43) hJ d_50_25 rfl ?_
        exact s_iret hJ d_50_43 rfl rfl (h3 c0 c1 c2)
    · skip
      refine s_bipush (v := 12) hJ d_50_14 (by decide) ?_
      refine s_goto (tgt := 43) hJ d_50_16 rfl ?_
      exact s_iret hJ d_50_43 rfl rfl (h4 c0 c1)
  · skip
    refine s_bipush (v := 8) hJ d_50_4 (by decide) ?_
    refine s_goto (tgt := 43) hJ d_50_6 rfl ?_
    exact s_iret hJ d_50_43 rfl rfl (h5 c0)
-- ReelOfBoxesModel.headSize(I)I : method 51
theorem d_51_0 : decode c_51 0 = .ok (.iload_n 1, 1) := by decide +kernel
theorem d_51_1 : decode c_51 1 = .ok (.iconst (2), 1) := by decide +kernel
theorem d_51_2 : decode c_51 2 = .ok (.if_icmp .ne (8), 3) := by decide +kernel
theorem d_51_5 : decode c_51 5 = .ok (.bipush (12), 2) := by decide +kernel
theorem d_51_7 : decode c_51 7 = .ok (.goto (5), 3) := by decide +kernel
theorem d_51_10 : decode c_51 10 = .ok (.bipush (8), 2) := by decide +kernel
theorem d_51_12 : decode c_51 12 = .ok (.ireturn, 1) := by decide +kernel
set_option maxRecDepth 4000 in
theorem b_51_0 {mc ms : Nat} {X : Option (Nat × (Nat → Int32))} {T : aj_Tt} {Q : aj_Q} {J : aj_J} (hJ : aj_Cl 1 c_51 (some .int) false mc ms X T Q J) {x1 : Int32} {o0 : Nat} {Z : aj_Z} {I : aj_I} {G : aj_G} {C : Nat × Nat} (h0 : ¬ x1 = 2 → Q (some (.int 8)) Z I G) (h1 : x1 = 2 → Q (some (.int 12)) Z I G) : J 0 [some (.ref o0), some (.int x1)] [] Z I G C := by
  refine s_iload_n hJ d_51_0 rfl ?_
  refine s_iconst_2 hJ d_51_1 ?_
  refine s_icmp_ne (tgt := 10) hJ d_51_2 rfl (fun c0 => ?_) (fun c0 => ?_)
  · skip
    refine s_bipush (v := 8) hJ d_51_10 (by decide) ?_
    exact s_iret hJ d_51_12 rfl rfl (h0 c0)
  · skip
    refine s_bipush (v := 12) hJ d_51_5 (by decide) ?_
    refine s_goto (tgt := 12) hJ d_51_7 rfl ?_
    exact s_iret hJ d_51_12 rfl rfl (h1 c0)
-- ReelOfBoxesModel.manyOf(II)J : method 52
theorem d_52_0 : decode c_52 0 = .ok (.aload_n 0, 1) := by decide +kernel
theorem d_52_1 : decode c_52 1 = .ok (.aload_n 0, 1) := by decide +kernel
theorem d_52_2 : decode c_52 2 = .ok (.getfield 42, 3) := by decide +kernel
theorem d_52_5 : decode c_52 5 = .ok (.iconst (4), 1) := by decide +kernel
theorem d_52_6 : decode c_52 6 = .ok (.iload_n 1, 1) := by decide +kernel
theorem d_52_7 : decode c_52 7 = .ok (.imul, 1) := by decide +kernel
theorem d_52_8 : decode c_52 8 = .ok (.iload_n 2, 1) := by decide +kernel
theorem d_52_9 : decode c_52 9 = .ok (.iadd, 1) := by decide +kernel
theorem d_52_10 : decode c_52 10 = .ok (.iaload, 1) := by decide +kernel
theorem d_52_11 : decode c_52 11 = .ok (.aload_n 0, 1) := by decide +kernel
theorem d_52_12 : decode c_52 12 = .ok (.iload_n 2, 1) := by decide +kernel
theorem d_52_13 : decode c_52 13 = .ok (.invokevirtual 193, 3) := by decide +kernel
theorem d_52_16 : decode c_52 16 = .ok (.iadd, 1) := by decide +kernel
theorem d_52_17 : decode c_52 17 = .ok (.iconst (4), 1) := by decide +kernel
theorem d_52_18 : decode c_52 18 = .ok (.isub, 1) := by decide +kernel
theorem d_52_19 : decode c_52 19 = .ok (.iconst (4), 1) := by decide +kernel
theorem d_52_20 : decode c_52 20 = .ok (.invokevirtual 139, 3) := by decide +kernel
theorem d_52_23 : decode c_52 23 = .ok (.lreturn, 1) := by decide +kernel
set_option maxRecDepth 4000 in
theorem b_52_0 {mc ms : Nat} {X : Option (Nat × (Nat → Int32))} {T : aj_Tt} {Q : aj_Q} {J : aj_J} (hJ : aj_Cl 1 c_52 (some .long) false mc ms X T Q J) {o0 : Nat} {x1 : Int32} {x2 : Int32} {q0 : Nat} {nk1 : Nat} {Z : aj_Z} {I : aj_I} {G : aj_G} {C : Nat × Nat} (k0 : Z.2.1 o0 = some (.inl 1)) (r0 : Z.2.2 o0 18 = .ref q0) (k1 : Z.2.1 q0 = some (.inr (0, nk1))) (h0 : vp_in ((4 * x1) + x2) nk1) (h1 : T 0 0 51 [.ref o0, .int x2] Z I G (fun r Z1 I1 G1 => J 16 [some (.ref o0), some (.int x1), some (.int x2)] (r.toList ++ [.int (I q0 (Int32.toNatClampNeg ((4 * x1) + x2))), .ref o0]) Z1 I1 G1 C)) : J 0 [some (.ref o0), some (.int x1), some (.int x2)] [] Z I G C := by
  refine s_aload_n hJ d_52_0 rfl ?_
  refine s_aload_n hJ d_52_1 rfl ?_
  refine s_getr hJ lf_1_42 rfl d_52_2 k0 r0 ?_
  refine s_iconst_4 hJ d_52_5 ?_
  refine s_iload_n hJ d_52_6 rfl ?_
  refine s_imul hJ d_52_7 ?_
  refine s_iload_n hJ d_52_8 rfl ?_
  refine s_iadd hJ d_52_9 ?_
  refine s_iald hJ d_52_10 k1 (h0) ?_
  refine s_aload_n hJ d_52_11 rfl ?_
  refine s_iload_n hJ d_52_12 rfl ?_
  exact s_V1 hJ lm_1_193 d_52_13 (Nat.le_of_ble_eq_true rfl) k0 (h1)
set_option maxRecDepth 4000 in
theorem b_52_16 {mc ms : Nat} {X : Option (Nat × (Nat → Int32))} {T : aj_Tt} {Q : aj_Q} {J : aj_J} (hJ : aj_Cl 1 c_52 (some .long) false mc ms X T Q J) {w0 : Option Value} {w1 : Option Value} {w2 : Option Value} {s0 : Int32} {s1 : Int32} {s2 : Nat} {Z : aj_Z} {I : aj_I} {G : aj_G} {C : Nat × Nat} (k0 : Z.2.1 s2 = some (.inl 1)) (h0 : T 0 0 41 [.ref s2, .int ((s1 + s0) - 4), .int 4] Z I G (fun r Z1 I1 G1 => J 23 [w0, w1, w2] (r.toList ++ []) Z1 I1 G1 C)) : J 16 [w0, w1, w2] [.int s0, .int s1, .ref s2] Z I G C := by
  refine s_iadd hJ d_52_16 ?_
  refine s_iconst_4 hJ d_52_17 ?_
  refine s_isub hJ d_52_18 ?_
  refine s_iconst_4 hJ d_52_19 ?_
  exact s_V2 hJ lm_1_139 d_52_20 (Nat.le_of_ble_eq_true rfl) k0 (h0)
set_option maxRecDepth 4000 in
theorem b_52_23 {mc ms : Nat} {X : Option (Nat × (Nat → Int32))} {T : aj_Tt} {Q : aj_Q} {J : aj_J} (hJ : aj_Cl 1 c_52 (some .long) false mc ms X T Q J) {w0 : Option Value} {w1 : Option Value} {w2 : Option Value} {s0 : Int64} {Z : aj_Z} {I : aj_I} {G : aj_G} {C : Nat × Nat} (h0 : Q (some (.long s0)) Z I G) : J 23 [w0, w1, w2] [.long s0] Z I G C := by
  exact s_lret hJ d_52_23 rfl (h0)
-- ReelOfBoxesModel.entriesOf(II)J : method 53
theorem d_53_0 : decode c_53 0 = .ok (.iload_n 2, 1) := by decide +kernel
theorem d_53_1 : decode c_53 1 = .ok (.iconst (2), 1) := by decide +kernel
theorem d_53_2 : decode c_53 2 = .ok (.if_icmp .ne (29), 3) := by decide +kernel
theorem d_53_5 : decode c_53 5 = .ok (.aload_n 0, 1) := by decide +kernel
theorem d_53_6 : decode c_53 6 = .ok (.aload_n 0, 1) := by decide +kernel
theorem d_53_7 : decode c_53 7 = .ok (.getfield 42, 3) := by decide +kernel
theorem d_53_10 : decode c_53 10 = .ok (.iconst (4), 1) := by decide +kernel
theorem d_53_11 : decode c_53 11 = .ok (.iload_n 1, 1) := by decide +kernel
theorem d_53_12 : decode c_53 12 = .ok (.imul, 1) := by decide +kernel
theorem d_53_13 : decode c_53 13 = .ok (.iload_n 2, 1) := by decide +kernel
theorem d_53_14 : decode c_53 14 = .ok (.iadd, 1) := by decide +kernel
theorem d_53_15 : decode c_53 15 = .ok (.iaload, 1) := by decide +kernel
theorem d_53_16 : decode c_53 16 = .ok (.iconst (4), 1) := by decide +kernel
theorem d_53_17 : decode c_53 17 = .ok (.iadd, 1) := by decide +kernel
theorem d_53_18 : decode c_53 18 = .ok (.iconst (4), 1) := by decide +kernel
theorem d_53_19 : decode c_53 19 = .ok (.invokevirtual 139, 3) := by decide +kernel
theorem d_53_22 : decode c_53 22 = .ok (.lconst 0, 1) := by decide +kernel
theorem d_53_23 : decode c_53 23 = .ok (.lcmp, 1) := by decide +kernel
theorem d_53_24 : decode c_53 24 = .ok (.ifCond .eq (7), 3) := by decide +kernel
theorem d_53_27 : decode c_53 27 = .ok (.lconst 0, 1) := by decide +kernel
theorem d_53_28 : decode c_53 28 = .ok (.goto (9), 3) := by decide +kernel
theorem d_53_31 : decode c_53 31 = .ok (.aload_n 0, 1) := by decide +kernel
theorem d_53_32 : decode c_53 32 = .ok (.iload_n 1, 1) := by decide +kernel
theorem d_53_33 : decode c_53 33 = .ok (.iload_n 2, 1) := by decide +kernel
theorem d_53_34 : decode c_53 34 = .ok (.invokevirtual 196, 3) := by decide +kernel
theorem d_53_37 : decode c_53 37 = .ok (.lreturn, 1) := by decide +kernel
set_option maxRecDepth 4000 in
theorem b_53_0 {mc ms : Nat} {X : Option (Nat × (Nat → Int32))} {T : aj_Tt} {Q : aj_Q} {J : aj_J} (hJ : aj_Cl 1 c_53 (some .long) false mc ms X T Q J) {o0 : Nat} {x1 : Int32} {x2 : Int32} {q0 : Nat} {nk1 : Nat} {Z : aj_Z} {I : aj_I} {G : aj_G} {C : Nat × Nat} (k0 : Z.2.1 o0 = some (.inl 1)) (h0 : ¬ x2 = 2 → T 0 0 52 [.ref o0, .int x1, .int x2] Z I G (fun r Z1 I1 G1 => J 37 [some (.ref o0), some (.int x1), some (.int x2)] (r.toList ++ []) Z1 I1 G1 C)) (r0 : Z.2.2 o0 18 = .ref q0) (k1 : Z.2.1 q0 = some (.inr (0, nk1))) (h1 : x2 = 2 → vp_in ((4 * x1) + x2) nk1) (h2 : x2 = 2 → T 0 0 41 [.ref o0, .int ((I q0 (Int32.toNatClampNeg ((4 * x1) + x2))) + 4), .int 4] Z I G (fun r Z1 I1 G1 => J 22 [some (.ref o0), some (.int x1), some (.int x2)] (r.toList ++ []) Z1 I1 G1 C)) : J 0 [some (.ref o0), some (.int x1), some (.int x2)] [] Z I G C := by
  refine s_iload_n hJ d_53_0 rfl ?_
  refine s_iconst_2 hJ d_53_1 ?_
  refine s_icmp_ne (tgt := 31) hJ d_53_2 rfl (fun c0 => ?_) (fun c0 => ?_)
  · skip
    refine s_aload_n hJ d_53_31 rfl ?_
    refine s_iload_n hJ d_53_32 rfl ?_
    refine s_iload_n hJ d_53_33 rfl ?_
    exact s_V2 hJ lm_1_196 d_53_34 (Nat.le_of_ble_eq_true rfl) k0 (h0 c0)
  · skip
    refine s_aload_n hJ d_53_5 rfl ?_
    refine s_aload_n hJ d_53_6 rfl ?_
    refine s_getr hJ lf_1_42 rfl d_53_7 k0 r0 ?_
    refine s_iconst_4 hJ d_53_10 ?_
    refine s_iload_n hJ d_53_11 rfl ?_
    refine s_imul hJ d_53_12 ?_
    refine s_iload_n hJ d_53_13 rfl ?_
    refine s_iadd hJ d_53_14 ?_
    refine s_iald hJ d_53_15 k1 (h1 c0) ?_
    refine s_iconst_4 hJ d_53_16 ?_
    refine s_iadd hJ d_53_17 ?_
    refine s_iconst_4 hJ d_53_18 ?_
    exact s_V2 hJ lm_1_139 d_53_19 (Nat.le_of_ble_eq_true rfl) k0 (h2 c0)
set_option maxRecDepth 4000 in
theorem b_53_22 {mc ms : Nat} {X : Option (Nat × (Nat → Int32))} {T : aj_Tt} {Q : aj_Q} {J : aj_J} (hJ : aj_Cl 1 c_53 (some .long) false mc ms X T Q J) {o0 : Nat} {x1 : Int32} {x2 : Int32} {s0 : Int64} {Z : aj_Z} {I : aj_I} {G : aj_G} {C : Nat × Nat} (k0 : Z.2.1 o0 = some (.inl 1)) (h0 : s0 = 0 → T 0 0 52 [.ref o0, .int x1, .int x2] Z I G (fun r Z1 I1 G1 => J 37 [some (.ref o0), some (.int x1), some (.int x2)] (r.toList ++ []) Z1 I1 G1 C)) (h1 : ¬ s0 = 0 → J 37 [some (.ref o0), some (.int x1), some (.int x2)] [.long 0] Z I G C) : J 22 [some (.ref o0), some (.int x1), some (.int x2)] [.long s0] Z I G C := by
  refine s_lconst_0 hJ d_53_22 ?_
  refine s_lif_eq (tgt := 31) hJ d_53_23 d_53_24 rfl (fun c0 => ?_) (fun c0 => ?_)
  · skip
    refine s_aload_n hJ d_53_31 rfl ?_
    refine s_iload_n hJ d_53_32 rfl ?_
    refine s_iload_n hJ d_53_33 rfl ?_
    exact s_V2 hJ lm_1_196 d_53_34 (Nat.le_of_ble_eq_true rfl) k0 (h0 c0)
  · skip
    refine s_lconst_0 hJ d_53_27 ?_
    refine s_goto (tgt := 37) hJ d_53_28 rfl ?_
    exact h1 c0
set_option maxRecDepth 4000 in
theorem b_53_37 {mc ms : Nat} {X : Option (Nat × (Nat → Int32))} {T : aj_Tt} {Q : aj_Q} {J : aj_J} (hJ : aj_Cl 1 c_53 (some .long) false mc ms X T Q J) {w0 : Option Value} {w1 : Option Value} {w2 : Option Value} {s0 : Int64} {Z : aj_Z} {I : aj_I} {G : aj_G} {C : Nat × Nat} (h0 : Q (some (.long s0)) Z I G) : J 37 [w0, w1, w2] [.long s0] Z I G C := by
  exact s_lret hJ d_53_37 rfl (h0)
-- ReelOfBoxesModel.hasLength(II)Z : method 54
theorem d_54_0 : decode c_54 0 = .ok (.aload_n 0, 1) := by decide +kernel
theorem d_54_1 : decode c_54 1 = .ok (.getfield 45, 3) := by decide +kernel
theorem d_54_4 : decode c_54 4 = .ok (.iconst (4), 1) := by decide +kernel
theorem d_54_5 : decode c_54 5 = .ok (.iload_n 1, 1) := by decide +kernel
theorem d_54_6 : decode c_54 6 = .ok (.imul, 1) := by decide +kernel
theorem d_54_7 : decode c_54 7 = .ok (.iload_n 2, 1) := by decide +kernel
theorem d_54_8 : decode c_54 8 = .ok (.iadd, 1) := by decide +kernel
theorem d_54_9 : decode c_54 9 = .ok (.iaload, 1) := by decide +kernel
theorem d_54_10 : decode c_54 10 = .ok (.aload_n 0, 1) := by decide +kernel
theorem d_54_11 : decode c_54 11 = .ok (.getfield 42, 3) := by decide +kernel
theorem d_54_14 : decode c_54 14 = .ok (.iconst (4), 1) := by decide +kernel
theorem d_54_15 : decode c_54 15 = .ok (.iload_n 1, 1) := by decide +kernel
theorem d_54_16 : decode c_54 16 = .ok (.imul, 1) := by decide +kernel
theorem d_54_17 : decode c_54 17 = .ok (.iload_n 2, 1) := by decide +kernel
theorem d_54_18 : decode c_54 18 = .ok (.iadd, 1) := by decide +kernel
theorem d_54_19 : decode c_54 19 = .ok (.iaload, 1) := by decide +kernel
theorem d_54_20 : decode c_54 20 = .ok (.isub, 1) := by decide +kernel
theorem d_54_21 : decode c_54 21 = .ok (.istore_n 3, 1) := by decide +kernel
theorem d_54_22 : decode c_54 22 = .ok (.iload_n 3, 1) := by decide +kernel
theorem d_54_23 : decode c_54 23 = .ok (.aload_n 0, 1) := by decide +kernel
theorem d_54_24 : decode c_54 24 = .ok (.iload_n 2, 1) := by decide +kernel
theorem d_54_25 : decode c_54 25 = .ok (.invokevirtual 193, 3) := by decide +kernel
theorem d_54_28 : decode c_54 28 = .ok (.if_icmp .lt (33), 3) := by decide +kernel
theorem d_54_31 : decode c_54 31 = .ok (.aload_n 0, 1) := by decide +kernel
theorem d_54_32 : decode c_54 32 = .ok (.iload_n 1, 1) := by decide +kernel
theorem d_54_33 : decode c_54 33 = .ok (.iload_n 2, 1) := by decide +kernel
theorem d_54_34 : decode c_54 34 = .ok (.invokevirtual 199, 3) := by decide +kernel
theorem d_54_37 : decode c_54 37 = .ok (.aload_n 0, 1) := by decide +kernel
theorem d_54_38 : decode c_54 38 = .ok (.iload_n 1, 1) := by decide +kernel
theorem d_54_39 : decode c_54 39 = .ok (.iload_n 2, 1) := by decide +kernel
theorem d_54_40 : decode c_54 40 = .ok (.invokevirtual 202, 3) := by decide +kernel
theorem d_54_43 : decode c_54 43 = .ok (.i2l, 1) := by decide +kernel
theorem d_54_44 : decode c_54 44 = .ok (.lmul, 1) := by decide +kernel
theorem d_54_45 : decode c_54 45 = .ok (.iload_n 3, 1) := by decide +kernel
theorem d_54_46 : decode c_54 46 = .ok (.aload_n 0, 1) := by decide +kernel
theorem d_54_47 : decode c_54 47 = .ok (.iload_n 2, 1) := by decide +kernel
theorem d_54_48 : decode c_54 48 = .ok (.invokevirtual 193, 3) := by decide +kernel
theorem d_54_51 : decode c_54 51 = .ok (.isub, 1) := by decide +kernel
theorem d_54_52 : decode c_54 52 = .ok (.i2l, 1) := by decide +kernel
theorem d_54_53 : decode c_54 53 = .ok (.lcmp, 1) := by decide +kernel
theorem d_54_54 : decode c_54 54 = .ok (.ifCond .ne (7), 3) := by decide +kernel
theorem d_54_57 : decode c_54 57 = .ok (.iconst (1), 1) := by decide +kernel
theorem d_54_58 : decode c_54 58 = .ok (.goto (4), 3) := by decide +kernel
theorem d_54_61 : decode c_54 61 = .ok (.iconst (0), 1) := by decide +kernel
theorem d_54_62 : decode c_54 62 = .ok (.ireturn, 1) := by decide +kernel
set_option maxRecDepth 4000 in
theorem b_54_0 {mc ms : Nat} {X : Option (Nat × (Nat → Int32))} {T : aj_Tt} {Q : aj_Q} {J : aj_J} (hJ : aj_Cl 1 c_54 (some .boolean) false mc ms X T Q J) {o0 : Nat} {x1 : Int32} {x2 : Int32} {q0 : Nat} {nk1 : Nat} {q1 : Nat} {nk3 : Nat} {Z : aj_Z} {I : aj_I} {G : aj_G} {C : Nat × Nat} (k0 : Z.2.1 o0 = some (.inl 1)) (r0 : Z.2.2 o0 19 = .ref q0) (k1 : Z.2.1 q0 = some (.inr (0, nk1))) (h0 : vp_in ((4 * x1) + x2) nk1) (r1 : Z.2.2 o0 18 = .ref q1) (k3 : Z.2.1 q1 = some (.inr (0, nk3))) (h1 : vp_in ((4 * x1) + x2) nk3) (h2 : T 0 0 51 [.ref o0, .int x2] Z I G (fun r Z1 I1 G1 => J 28 [some (.ref o0), some (.int x1), some (.int x2), some (.int ((I q0 (Int32.toNatClampNeg ((4 * x1) + x2))) - (I q1 (Int32.toNatClampNeg ((4 * x1) + x2)))))] (r.toList ++ [.int ((I q0 (Int32.toNatClampNeg ((4 * x1) + x2))) - (I q1 (Int32.toNatClampNeg ((4 * x1) + x2))))]) Z1 I1 G1 C)) : J 0 [some (.ref o0), some (.int x1), some (.int x2), none] [] Z I G C := by
  refine s_aload_n hJ d_54_0 rfl ?_
  refine s_getr hJ lf_1_45 rfl d_54_1 k0 r0 ?_
  refine s_iconst_4 hJ d_54_4 ?_
  refine s_iload_n hJ d_54_5 rfl ?_
  refine s_imul hJ d_54_6 ?_
  refine s_iload_n hJ d_54_7 rfl ?_
  refine s_iadd hJ d_54_8 ?_
  refine s_iald hJ d_54_9 k1 (h0) ?_
  refine s_aload_n hJ d_54_10 rfl ?_
  refine s_getr hJ lf_1_42 rfl d_54_11 k0 r1 ?_
  refine s_iconst_4 hJ d_54_14 ?_
  refine s_iload_n hJ d_54_15 rfl ?_
  refine s_imul hJ d_54_16 ?_
  refine s_iload_n hJ d_54_17 rfl ?_
  refine s_iadd hJ d_54_18 ?_
  refine s_iald hJ d_54_19 k3 (h1) ?_
  refine s_isub hJ d_54_20 ?_
  refine s_istore_n hJ d_54_21 (Nat.le_of_ble_eq_true rfl) ?_
  refine s_iload_n hJ d_54_22 rfl ?_
  refine s_aload_n hJ d_54_23 rfl ?_
  refine s_iload_n hJ d_54_24 rfl ?_
  exact s_V1 hJ lm_1_193 d_54_25 (Nat.le_of_ble_eq_true rfl) k0 (h2)
set_option maxRecDepth 4000 in
theorem b_54_28 {mc ms : Nat} {X : Option (Nat × (Nat → Int32))} {T : aj_Tt} {Q : aj_Q} {J : aj_J} (hJ : aj_Cl 1 c_54 (some .boolean) false mc ms X T Q J) {o0 : Nat} {x1 : Int32} {x2 : Int32} {x3 : Int32} {s0 : Int32} {s1 : Int32} {Z : aj_Z} {I : aj_I} {G : aj_G} {C : Nat × Nat} (h0 : s1 < s0 → Q (some (.int 0)) Z I G) (k0 : Z.2.1 o0 = some (.inl 1)) (h1 : ¬ s1 < s0 → T 0 0 53 [.ref o0, .int x1, .int x2] Z I G (fun r Z1 I1 G1 => J 37 [some (.ref o0), some (.int x1), some (.int x2), some (.int x3)] (r.toList ++ []) Z1 I1 G1 C)) : J 28 [some (.ref o0), some (.int x1), some (.int x2), some (.int x3)] [.int s0, .int s1] Z I G C := by
  refine s_icmp_lt (tgt := 61) hJ d_54_28 rfl (fun c0 => ?_) (fun c0 => ?_)
  · skip
    refine s_iconst_0 hJ d_54_61 ?_
    exact s_iret hJ d_54_62 rfl rfl (h0 c0)
  · skip
    refine s_aload_n hJ d_54_31 rfl ?_
    refine s_iload_n hJ d_54_32 rfl ?_
    refine s_iload_n hJ d_54_33 rfl ?_
    exact s_V2 hJ lm_1_199 d_54_34 (Nat.le_of_ble_eq_true rfl) k0 (h1 c0)
set_option maxRecDepth 4000 in
theorem b_54_37 {mc ms : Nat} {X : Option (Nat × (Nat → Int32))} {T : aj_Tt} {Q : aj_Q} {J : aj_J} (hJ : aj_Cl 1 c_54 (some .boolean) false mc ms X T Q J) {o0 : Nat} {x1 : Int32} {x2 : Int32} {x3 : Int32} {s0 : Int64} {Z : aj_Z} {I : aj_I} {G : aj_G} {C : Nat × Nat} (k0 : Z.2.1 o0 = some (.inl 1)) (h0 : T 0 0 50 [.ref o0, .int x1, .int x2] Z I G (fun r Z1 I1 G1 => J 43 [some (.ref o0), some (.int x1), some (.int x2), some (.int x3)] (r.toList ++ [.long s0]) Z1 I1 G1 C)) : J 37 [some (.ref o0), some (.int x1), some (.int x2), some (.int x3)] [.long s0] Z I G C := by
  refine s_aload_n hJ d_54_37 rfl ?_
  refine s_iload_n hJ d_54_38 rfl ?_
  refine s_iload_n hJ d_54_39 rfl ?_
  exact s_V2 hJ lm_1_202 d_54_40 (Nat.le_of_ble_eq_true rfl) k0 (h0)
set_option maxRecDepth 4000 in
theorem b_54_43 {mc ms : Nat} {X : Option (Nat × (Nat → Int32))} {T : aj_Tt} {Q : aj_Q} {J : aj_J} (hJ : aj_Cl 1 c_54 (some .boolean) false mc ms X T Q J) {o0 : Nat} {w1 : Option Value} {x2 : Int32} {x3 : Int32} {s0 : Int32} {s1 : Int64} {Z : aj_Z} {I : aj_I} {G : aj_G} {C : Nat × Nat} (k0 : Z.2.1 o0 = some (.inl 1)) (h0 : T 0 0 51 [.ref o0, .int x2] Z I G (fun r Z1 I1 G1 => J 51 [some (.ref o0), w1, some (.int x2), some (.int x3)] (r.toList ++ [.int x3, .long (s1 * (Int32.toInt64 s0))]) Z1 I1 G1 C)) : J 43 [some (.ref o0), w1, some (.int x2), some (.int x3)] [.int s0, .long s1] Z I G C := by
  refine s_i2l hJ d_54_43 ?_
  refine s_lmul hJ d_54_44 ?_
  refine s_iload_n hJ d_54_45 rfl ?_
  refine s_aload_n hJ d_54_46 rfl ?_
  refine s_iload_n hJ d_54_47 rfl ?_
  exact s_V1 hJ lm_1_193 d_54_48 (Nat.le_of_ble_eq_true rfl) k0 (h0)
set_option maxRecDepth 4000 in
theorem b_54_51 {mc ms : Nat} {X : Option (Nat × (Nat → Int32))} {T : aj_Tt} {Q : aj_Q} {J : aj_J} (hJ : aj_Cl 1 c_54 (some .boolean) false mc ms X T Q J) {w0 : Option Value} {w1 : Option Value} {w2 : Option Value} {w3 : Option Value} {s0 : Int32} {s1 : Int32} {s2 : Int64} {Z : aj_Z} {I : aj_I} {G : aj_G} {C : Nat × Nat} (h0 : ¬ s2 = (Int32.toInt64 (s1 - s0)) → Q (some (.int 0)) Z I G) (h1 : s2 = (Int32.toInt64 (s1 - s0)) → Q (some (.int 1)) Z I G) : J 51 [w0, w1, w2, w3] [.int s0, .int s1, .long s2] Z I G C := by
  refine s_isub hJ d_54_51 ?_
  refine s_i2l hJ d_54_52 ?_
  refine s_lif_ne (tgt := 61) hJ d_54_53 d_54_54 rfl (fun c0 => ?_) (fun c0 => ?_)
  · skip
    refine s_iconst_0 hJ d_54_61 ?_
    exact s_iret hJ d_54_62 rfl rfl (h0 c0)
  · skip
    refine s_iconst_1 hJ d_54_57 ?_
    refine s_goto (tgt := 62) hJ d_54_58 rfl ?_
    exact s_iret hJ d_54_62 rfl rfl (h1 c0)
