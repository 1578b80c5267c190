/-! decode rows and block rows, by a program -/
-- ReelOfBoxesModel.findSamples(I)V : method 63
theorem d_63_0 : decode c_63 0 = .ok (.aload_n 0, 1) := by decide +kernel
theorem d_63_1 : decode c_63 1 = .ok (.iload_n 1, 1) := by decide +kernel
theorem d_63_2 : decode c_63 2 = .ok (.iconst (2), 1) := by decide +kernel
theorem d_63_3 : decode c_63 3 = .ok (.invokevirtual 196, 3) := by decide +kernel
theorem d_63_6 : decode c_63 6 = .ok (.l2i, 1) := by decide +kernel
theorem d_63_7 : decode c_63 7 = .ok (.istore_n 2, 1) := by decide +kernel
theorem d_63_8 : decode c_63 8 = .ok (.aload_n 0, 1) := by decide +kernel
theorem d_63_9 : decode c_63 9 = .ok (.getfield 52, 3) := by decide +kernel
theorem d_63_12 : decode c_63 12 = .ok (.iload_n 1, 1) := by decide +kernel
theorem d_63_13 : decode c_63 13 = .ok (.iload_n 2, 1) := by decide +kernel
theorem d_63_14 : decode c_63 14 = .ok (.iastore, 1) := by decide +kernel
theorem d_63_15 : decode c_63 15 = .ok (.iconst (0), 1) := by decide +kernel
theorem d_63_16 : decode c_63 16 = .ok (.istore_n 3, 1) := by decide +kernel
theorem d_63_17 : decode c_63 17 = .ok (.iconst (0), 1) := by decide +kernel
theorem d_63_18 : decode c_63 18 = .ok (.istore 4, 2) := by decide +kernel
theorem d_63_20 : decode c_63 20 = .ok (.iload 4, 2) := by decide +kernel
theorem d_63_22 : decode c_63 22 = .ok (.i2l, 1) := by decide +kernel
theorem d_63_23 : decode c_63 23 = .ok (.aload_n 0, 1) := by decide +kernel
theorem d_63_24 : decode c_63 24 = .ok (.iload_n 1, 1) := by decide +kernel
theorem d_63_25 : decode c_63 25 = .ok (.iconst (0), 1) := by decide +kernel
theorem d_63_26 : decode c_63 26 = .ok (.invokevirtual 199, 3) := by decide +kernel
theorem d_63_29 : decode c_63 29 = .ok (.lcmp, 1) := by decide +kernel
theorem d_63_30 : decode c_63 30 = .ok (.ifCond .ge (59), 3) := by decide +kernel
theorem d_63_33 : decode c_63 33 = .ok (.iconst (0), 1) := by decide +kernel
theorem d_63_34 : decode c_63 34 = .ok (.istore 5, 2) := by decide +kernel
theorem d_63_36 : decode c_63 36 = .ok (.iload 5, 2) := by decide +kernel
theorem d_63_38 : decode c_63 38 = .ok (.i2l, 1) := by decide +kernel
theorem d_63_39 : decode c_63 39 = .ok (.aload_n 0, 1) := by decide +kernel
theorem d_63_40 : decode c_63 40 = .ok (.iload_n 1, 1) := by decide +kernel
theorem d_63_41 : decode c_63 41 = .ok (.iconst (0), 1) := by decide +kernel
theorem d_63_42 : decode c_63 42 = .ok (.iload 4, 2) := by decide +kernel
theorem d_63_44 : decode c_63 44 = .ok (.iconst (0), 1) := by decide +kernel
theorem d_63_45 : decode c_63 45 = .ok (.invokevirtual 207, 3) := by decide +kernel
theorem d_63_48 : decode c_63 48 = .ok (.lcmp, 1) := by decide +kernel
theorem d_63_49 : decode c_63 49 = .ok (.ifCond .ge (34), 3) := by decide +kernel
theorem d_63_52 : decode c_63 52 = .ok (.aload_n 0, 1) := by decide +kernel
theorem d_63_53 : decode c_63 53 = .ok (.getfield 55, 3) := by decide +kernel
theorem d_63_56 : decode c_63 56 = .ok (.bipush (16), 2) := by decide +kernel
theorem d_63_58 : decode c_63 58 = .ok (.iload_n 1, 1) := by decide +kernel
theorem d_63_59 : decode c_63 59 = .ok (.imul, 1) := by decide +kernel
theorem d_63_60 : decode c_63 60 = .ok (.iload_n 3, 1) := by decide +kernel
theorem d_63_61 : decode c_63 61 = .ok (.iadd, 1) := by decide +kernel
theorem d_63_62 : decode c_63 62 = .ok (.aload_n 0, 1) := by decide +kernel
theorem d_63_63 : decode c_63 63 = .ok (.iload_n 1, 1) := by decide +kernel
theorem d_63_64 : decode c_63 64 = .ok (.iconst (0), 1) := by decide +kernel
theorem d_63_65 : decode c_63 65 = .ok (.iload 4, 2) := by decide +kernel
theorem d_63_67 : decode c_63 67 = .ok (.iconst (1), 1) := by decide +kernel
theorem d_63_68 : decode c_63 68 = .ok (.invokevirtual 207, 3) := by decide +kernel
theorem d_63_71 : decode c_63 71 = .ok (.l2i, 1) := by decide +kernel
theorem d_63_72 : decode c_63 72 = .ok (.iastore, 1) := by decide +kernel
theorem d_63_73 : decode c_63 73 = .ok (.iload_n 3, 1) := by decide +kernel
theorem d_63_74 : decode c_63 74 = .ok (.iconst (1), 1) := by decide +kernel
theorem d_63_75 : decode c_63 75 = .ok (.iadd, 1) := by decide +kernel
theorem d_63_76 : decode c_63 76 = .ok (.istore_n 3, 1) := by decide +kernel
theorem d_63_77 : decode c_63 77 = .ok (.iinc 5 (1), 3) := by decide +kernel
theorem d_63_80 : decode c_63 80 = .ok (.goto (-44), 3) := by decide +kernel
theorem d_63_83 : decode c_63 83 = .ok (.iinc 4 (1), 3) := by decide +kernel
theorem d_63_86 : decode c_63 86 = .ok (.goto (-66), 3) := by decide +kernel
theorem d_63_89 : decode c_63 89 = .ok (.iconst (0), 1) := by decide +kernel
theorem d_63_90 : decode c_63 90 = .ok (.istore_n 3, 1) := by decide +kernel
theorem d_63_91 : decode c_63 91 = .ok (.iconst (1), 1) := by decide +kernel
theorem d_63_92 : decode c_63 92 = .ok (.istore 4, 2) := by decide +kernel
theorem d_63_94 : decode c_63 94 = .ok (.iload 4, 2) := by decide +kernel
theorem d_63_96 : decode c_63 96 = .ok (.i2l, 1) := by decide +kernel
theorem d_63_97 : decode c_63 97 = .ok (.aload_n 0, 1) := by decide +kernel
theorem d_63_98 : decode c_63 98 = .ok (.iload_n 1, 1) := by decide +kernel
theorem d_63_99 : decode c_63 99 = .ok (.iconst (3), 1) := by decide +kernel
theorem d_63_100 : decode c_63 100 = .ok (.invokevirtual 196, 3) := by decide +kernel
theorem d_63_103 : decode c_63 103 = .ok (.lcmp, 1) := by decide +kernel
theorem d_63_104 : decode c_63 104 = .ok (.ifCond .gt (91), 3) := by decide +kernel
theorem d_63_107 : decode c_63 107 = .ok (.aload_n 0, 1) := by decide +kernel
theorem d_63_108 : decode c_63 108 = .ok (.iload_n 1, 1) := by decide +kernel
theorem d_63_109 : decode c_63 109 = .ok (.iconst (3), 1) := by decide +kernel
theorem d_63_110 : decode c_63 110 = .ok (.iload 4, 2) := by decide +kernel
theorem d_63_112 : decode c_63 112 = .ok (.iconst (1), 1) := by decide +kernel
theorem d_63_113 : decode c_63 113 = .ok (.isub, 1) := by decide +kernel
theorem d_63_114 : decode c_63 114 = .ok (.iconst (0), 1) := by decide +kernel
theorem d_63_115 : decode c_63 115 = .ok (.invokevirtual 207, 3) := by decide +kernel
theorem d_63_118 : decode c_63 118 = .ok (.lstore 5, 2) := by decide +kernel
theorem d_63_120 : decode c_63 120 = .ok (.iconst (0), 1) := by decide +kernel
theorem d_63_121 : decode c_63 121 = .ok (.istore 7, 2) := by decide +kernel
theorem d_63_123 : decode c_63 123 = .ok (.iload 7, 2) := by decide +kernel
theorem d_63_125 : decode c_63 125 = .ok (.i2l, 1) := by decide +kernel
theorem d_63_126 : decode c_63 126 = .ok (.aload_n 0, 1) := by decide +kernel
theorem d_63_127 : decode c_63 127 = .ok (.iload_n 1, 1) := by decide +kernel
theorem d_63_128 : decode c_63 128 = .ok (.iload 4, 2) := by decide +kernel
theorem d_63_130 : decode c_63 130 = .ok (.invokevirtual 232, 3) := by decide +kernel
theorem d_63_133 : decode c_63 133 = .ok (.lcmp, 1) := by decide +kernel
theorem d_63_134 : decode c_63 134 = .ok (.ifCond .ge (55), 3) := by decide +kernel
theorem d_63_137 : decode c_63 137 = .ok (.aload_n 0, 1) := by decide +kernel
theorem d_63_138 : decode c_63 138 = .ok (.getfield 58, 3) := by decide +kernel
theorem d_63_141 : decode c_63 141 = .ok (.bipush (16), 2) := by decide +kernel
theorem d_63_143 : decode c_63 143 = .ok (.iload_n 1, 1) := by decide +kernel
theorem d_63_144 : decode c_63 144 = .ok (.imul, 1) := by decide +kernel
theorem d_63_145 : decode c_63 145 = .ok (.iload_n 3, 1) := by decide +kernel
theorem d_63_146 : decode c_63 146 = .ok (.iadd, 1) := by decide +kernel
theorem d_63_147 : decode c_63 147 = .ok (.aload_n 0, 1) := by decide +kernel
theorem d_63_148 : decode c_63 148 = .ok (.iload_n 1, 1) := by decide +kernel
theorem d_63_149 : decode c_63 149 = .ok (.iload_n 3, 1) := by decide +kernel
theorem d_63_150 : decode c_63 150 = .ok (.invokevirtual 227, 3) := by decide +kernel
theorem d_63_153 : decode c_63 153 = .ok (.l2i, 1) := by decide +kernel
theorem d_63_154 : decode c_63 154 = .ok (.iastore, 1) := by decide +kernel
theorem d_63_155 : decode c_63 155 = .ok (.aload_n 0, 1) := by decide +kernel
theorem d_63_156 : decode c_63 156 = .ok (.getfield 61, 3) := by decide +kernel
theorem d_63_159 : decode c_63 159 = .ok (.bipush (16), 2) := by decide +kernel
theorem d_63_161 : decode c_63 161 = .ok (.iload_n 1, 1) := by decide +kernel
theorem d_63_162 : decode c_63 162 = .ok (.imul, 1) := by decide +kernel
theorem d_63_163 : decode c_63 163 = .ok (.iload_n 3, 1) := by decide +kernel
theorem d_63_164 : decode c_63 164 = .ok (.iadd, 1) := by decide +kernel
theorem d_63_165 : decode c_63 165 = .ok (.lload 5, 2) := by decide +kernel
theorem d_63_167 : decode c_63 167 = .ok (.lastore, 1) := by decide +kernel
theorem d_63_168 : decode c_63 168 = .ok (.lload 5, 2) := by decide +kernel
theorem d_63_170 : decode c_63 170 = .ok (.aload_n 0, 1) := by decide +kernel
theorem d_63_171 : decode c_63 171 = .ok (.iload_n 1, 1) := by decide +kernel
theorem d_63_172 : decode c_63 172 = .ok (.iload_n 3, 1) := by decide +kernel
theorem d_63_173 : decode c_63 173 = .ok (.invokevirtual 227, 3) := by decide +kernel
theorem d_63_176 : decode c_63 176 = .ok (.ladd, 1) := by decide +kernel
theorem d_63_177 : decode c_63 177 = .ok (.lstore 5, 2) := by decide +kernel
theorem d_63_179 : decode c_63 179 = .ok (.iload_n 3, 1) := by decide +kernel
theorem d_63_180 : decode c_63 180 = .ok (.iconst (1), 1) := by decide +kernel
theorem d_63_181 : decode c_63 181 = .ok (.iadd, 1) := by decide +kernel
theorem d_63_182 : decode c_63 182 = .ok (.istore_n 3, 1) := by decide +kernel
theorem d_63_183 : decode c_63 183 = .ok (.iinc 7 (1), 3) := by decide +kernel
theorem d_63_186 : decode c_63 186 = .ok (.goto (-63), 3) := by decide +kernel
theorem d_63_189 : decode c_63 189 = .ok (.iinc 4 (1), 3) := by decide +kernel
theorem d_63_192 : decode c_63 192 = .ok (.goto (-98), 3) := by decide +kernel
theorem d_63_195 : decode c_63 195 = .ok (.return_, 1) := by decide +kernel
set_option maxRecDepth 4000 in
theorem b_63_0 {mc ms : Nat} {X : Option (Nat × (Nat → Int32))} {T : aj_Tt} {Q : aj_Q} {J : aj_J} (hJ : aj_Cl 1 c_63 (none) false mc ms X T Q J) {o0 : Nat} {x1 : Int32} {Z : aj_Z} {I : aj_I} {G : aj_G} {C : Nat × Nat} (k0 : Z.2.1 o0 = some (.inl 1)) (h0 : T 0 0 52 [.ref o0, .int x1, .int 2] Z I G (fun r Z1 I1 G1 => J 6 [some (.ref o0), some (.int x1), none, none, none, none, none, none] (r.toList ++ []) Z1 I1 G1 C)) : J 0 [some (.ref o0), some (.int x1), none, none, none, none, none, none] [] Z I G C := by
  refine s_aload_n hJ d_63_0 rfl ?_
  refine s_iload_n hJ d_63_1 rfl ?_
  refine s_iconst_2 hJ d_63_2 ?_
  exact s_V2 hJ lm_1_196 d_63_3 (Nat.le_of_ble_eq_true rfl) k0 (h0)
set_option maxRecDepth 4000 in
theorem b_63_6 {mc ms : Nat} {X : Option (Nat × (Nat → Int32))} {T : aj_Tt} {Q : aj_Q} {J : aj_J} (hJ : aj_Cl 1 c_63 (none) false mc ms X T Q J) {o0 : Nat} {x1 : Int32} {w2 : Option Value} {w3 : Option Value} {w4 : Option Value} {w5 : Option Value} {w6 : Option Value} {w7 : Option Value} {s0 : Int64} {q0 : Nat} {nk1 : Nat} {Z : aj_Z} {I : aj_I} {G : aj_G} {C : Nat × Nat} (k0 : Z.2.1 o0 = some (.inl 1)) (r0 : Z.2.2 o0 24 = .ref q0) (k1 : Z.2.1 q0 = some (.inr (0, nk1))) (h0 : vp_in x1 nk1) (h1 : J 20 [some (.ref o0), some (.int x1), some (.int (Int64.toInt32 s0)), some (.int 0), some (.int 0), w5, w6, w7] [] Z (aj_u2 I q0 (Int32.toNatClampNeg x1) (Int64.toInt32 s0)) G C) : J 6 [some (.ref o0), some (.int x1), w2, w3, w4, w5, w6, w7] [.long s0] Z I G C := by
  refine s_l2i hJ d_63_6 ?_
  refine s_istore_n hJ d_63_7 (Nat.le_of_ble_eq_true rfl) ?_
  refine s_aload_n hJ d_63_8 rfl ?_
  refine s_getr hJ lf_1_52 rfl d_63_9 k0 r0 ?_
  refine s_iload_n hJ d_63_12 rfl ?_
  refine s_iload_n hJ d_63_13 rfl ?_
  refine s_iast hJ d_63_14 k1 (h0) ?_
  refine s_iconst_0 hJ d_63_15 ?_
  refine s_istore_n hJ d_63_16 (Nat.le_of_ble_eq_true rfl) ?_
  refine s_iconst_0 hJ d_63_17 ?_
  refine s_istore hJ d_63_18 (Nat.le_of_ble_eq_true rfl) ?_
  exact h1
set_option maxRecDepth 4000 in
theorem b_63_20 {mc ms : Nat} {X : Option (Nat × (Nat → Int32))} {T : aj_Tt} {Q : aj_Q} {J : aj_J} (hJ : aj_Cl 1 c_63 (none) false mc ms X T Q J) {o0 : Nat} {x1 : Int32} {w2 : Option Value} {x3 : Int32} {x4 : Int32} {w5 : Option Value} {w6 : Option Value} {w7 : Option Value} {Z : aj_Z} {I : aj_I} {G : aj_G} {C : Nat × Nat} (k0 : Z.2.1 o0 = some (.inl 1)) (h0 : T 0 0 53 [.ref o0, .int x1, .int 0] Z I G (fun r Z1 I1 G1 => J 29 [some (.ref o0), some (.int x1), w2, some (.int x3), some (.int x4), w5, w6, w7] (r.toList ++ [.long (Int32.toInt64 x4)]) Z1 I1 G1 C)) : J 20 [some (.ref o0), some (.int x1), w2, some (.int x3), some (.int x4), w5, w6, w7] [] Z I G C := by
  refine s_iload hJ d_63_20 rfl ?_
  refine s_i2l hJ d_63_22 ?_
  refine s_aload_n hJ d_63_23 rfl ?_
  refine s_iload_n hJ d_63_24 rfl ?_
  refine s_iconst_0 hJ d_63_25 ?_
  exact s_V2 hJ lm_1_199 d_63_26 (Nat.le_of_ble_eq_true rfl) k0 (h0)
set_option maxRecDepth 4000 in
theorem b_63_29 {mc ms : Nat} {X : Option (Nat × (Nat → Int32))} {T : aj_Tt} {Q : aj_Q} {J : aj_J} (hJ : aj_Cl 1 c_63 (none) false mc ms X T Q J) {o0 : Nat} {x1 : Int32} {w2 : Option Value} {x3 : Int32} {x4 : Int32} {w5 : Option Value} {w6 : Option Value} {w7 : Option Value} {s0 : Int64} {s1 : Int64} {Z : aj_Z} {I : aj_I} {G : aj_G} {C : Nat × Nat} (h0 : s0 ≤ s1 → J 94 [some (.ref o0), some (.int x1), (aj_clr w2), some (.int 0), some (.int 1), w5, w6, w7] [] Z I G C) (h1 : ¬ s0 ≤ s1 → J 36 [some (.ref o0), some (.int x1), w2, some (.int x3), some (.int x4), some (.int 0), w6, w7] [] Z I G C) : J 29 [some (.ref o0), some (.int x1), w2, some (.int x3), some (.int x4), w5, w6, w7] [.long s0, .long s1] Z I G C := by
  refine s_lif_ge (tgt := 89) hJ d_63_29 d_63_30 rfl (fun c0 => ?_) (fun c0 => ?_)
  · skip
    refine s_iconst_0 hJ d_63_89 ?_
    refine s_istore_n hJ d_63_90 (Nat.le_of_ble_eq_true rfl) ?_
    refine s_iconst_1 hJ d_63_91 ?_
    refine s_istore hJ d_63_92 (Nat.le_of_ble_eq_true rfl) ?_
    exact h0 c0
  · skip
    refine s_iconst_0 hJ d_63_33 ?_
    refine s_istore hJ d_63_34 (Nat.le_of_ble_eq_true rfl) ?_
    exact h1 c0
set_option maxRecDepth 4000 in
theorem b_63_36 {mc ms : Nat} {X : Option (Nat × (Nat → Int32))} {T : aj_Tt} {Q : aj_Q} {J : aj_J} (hJ : aj_Cl 1 c_63 (none) false mc ms X T Q J) {o0 : Nat} {x1 : Int32} {w2 : Option Value} {x3 : Int32} {x4 : Int32} {x5 : Int32} {w6 : Option Value} {w7 : Option Value} {Z : aj_Z} {I : aj_I} {G : aj_G} {C : Nat × Nat} (k0 : Z.2.1 o0 = some (.inl 1)) (h0 : T 0 0 55 [.ref o0, .int x1, .int 0, .int x4, .int 0] Z I G (fun r Z1 I1 G1 => J 48 [some (.ref o0), some (.int x1), w2, some (.int x3), some (.int x4), some (.int x5), w6, w7] (r.toList ++ [.long (Int32.toInt64 x5)]) Z1 I1 G1 C)) : J 36 [some (.ref o0), some (.int x1), w2, some (.int x3), some (.int x4), some (.int x5), w6, w7] [] Z I G C := by
  refine s_iload hJ d_63_36 rfl ?_
  refine s_i2l hJ d_63_38 ?_
  refine s_aload_n hJ d_63_39 rfl ?_
  refine s_iload_n hJ d_63_40 rfl ?_
  refine s_iconst_0 hJ d_63_41 ?_
  refine s_iload hJ d_63_42 rfl ?_
  refine s_iconst_0 hJ d_63_44 ?_
  exact s_V4 hJ lm_1_207 d_63_45 (Nat.le_of_ble_eq_true rfl) k0 (h0)
set_option maxRecDepth 4000 in
theorem b_63_48 {mc ms : Nat} {X : Option (Nat × (Nat → Int32))} {T : aj_Tt} {Q : aj_Q} {J : aj_J} (hJ : aj_Cl 1 c_63 (none) false mc ms X T Q J) {o0 : Nat} {x1 : Int32} {w2 : Option Value} {x3 : Int32} {x4 : Int32} {x5 : Int32} {w6 : Option Value} {w7 : Option Value} {s0 : Int64} {s1 : Int64} {q0 : Nat} {Z : aj_Z} {I : aj_I} {G : aj_G} {C : Nat × Nat} (h0 : s0 ≤ s1 → J 20 [some (.ref o0), some (.int x1), w2, some (.int x3), some (.int (x4 + 1)), some (.int x5), w6, w7] [] Z I G C) (k0 : Z.2.1 o0 = some (.inl 1)) (r0 : Z.2.2 o0 25 = .ref q0) (h1 : ¬ s0 ≤ s1 → T 0 0 55 [.ref o0, .int x1, .int 0, .int x4, .int 1] Z I G (fun r Z1 I1 G1 => J 71 [some (.ref o0), some (.int x1), w2, some (.int x3), some (.int x4), some (.int x5), w6, w7] (r.toList ++ [.int ((16 * x1) + x3), .ref q0]) Z1 I1 G1 C)) : J 48 [some (.ref o0), some (.int x1), w2, some (.int x3), some (.int x4), some (.int x5), w6, w7] [.long s0, .long s1] Z I G C := by
  refine s_lif_ge (tgt := 83) hJ d_63_48 d_63_49 rfl (fun c0 => ?_) (fun c0 => ?_)
  · skip
    refine s_iinc (v := 1) hJ d_63_83 rfl (by decide) ?_
    refine s_goto (tgt := 20) hJ d_63_86 rfl ?_
    exact h0 c0
  · skip
    refine s_aload_n hJ d_63_52 rfl ?_
    refine s_getr hJ lf_1_55 rfl d_63_53 k0 r0 ?_
    refine s_bipush (v := 16) hJ d_63_56 (by decide) ?_
    refine s_iload_n hJ d_63_58 rfl ?_
    refine s_imul hJ d_63_59 ?_
    refine s_iload_n hJ d_63_60 rfl ?_
    refine s_iadd hJ d_63_61 ?_
    refine s_aload_n hJ d_63_62 rfl ?_
    refine s_iload_n hJ d_63_63 rfl ?_
    refine s_iconst_0 hJ d_63_64 ?_
    refine s_iload hJ d_63_65 rfl ?_
    refine s_iconst_1 hJ d_63_67 ?_
    exact s_V4 hJ lm_1_207 d_63_68 (Nat.le_of_ble_eq_true rfl) k0 (h1 c0)
set_option maxRecDepth 4000 in
theorem b_63_71 {mc ms : Nat} {X : Option (Nat × (Nat → Int32))} {T : aj_Tt} {Q : aj_Q} {J : aj_J} (hJ : aj_Cl 1 c_63 (none) false mc ms X T Q J) {o0 : Nat} {x1 : Int32} {w2 : Option Value} {x3 : Int32} {x4 : Int32} {x5 : Int32} {w6 : Option Value} {w7 : Option Value} {s0 : Int64} {s1 : Int32} {s2 : Nat} {nk0 : Nat} {Z : aj_Z} {I : aj_I} {G : aj_G} {C : Nat × Nat} (k0 : Z.2.1 s2 = some (.inr (0, nk0))) (h0 : vp_in s1 nk0) (h1 : J 36 [some (.ref o0), some (.int x1), (aj_clr w2), some (.int (x3 + 1)), some (.int x4), some (.int (x5 + 1)), w6, w7] [] Z (aj_u2 I s2 (Int32.toNatClampNeg s1) (Int64.toInt32 s0)) G C) : J 71 [some (.ref o0), some (.int x1), w2, some (.int x3), some (.int x4), some (.int x5), w6, w7] [.long s0, .int s1, .ref s2] Z I G C := by
  refine s_l2i hJ d_63_71 ?_
  refine s_iast hJ d_63_72 k0 (h0) ?_
  refine s_iload_n hJ d_63_73 rfl ?_
  refine s_iconst_1 hJ d_63_74 ?_
  refine s_iadd hJ d_63_75 ?_
  refine s_istore_n hJ d_63_76 (Nat.le_of_ble_eq_true rfl) ?_
  refine s_iinc (v := 1) hJ d_63_77 rfl (by decide) ?_
  refine s_goto (tgt := 36) hJ d_63_80 rfl ?_
  exact h1
set_option maxRecDepth 4000 in
theorem b_63_94 {mc ms : Nat} {X : Option (Nat × (Nat → Int32))} {T : aj_Tt} {Q : aj_Q} {J : aj_J} (hJ : aj_Cl 1 c_63 (none) false mc ms X T Q J) {o0 : Nat} {x1 : Int32} {w2 : Option Value} {x3 : Int32} {x4 : Int32} {w5 : Option Value} {w6 : Option Value} {w7 : Option Value} {Z : aj_Z} {I : aj_I} {G : aj_G} {C : Nat × Nat} (k0 : Z.2.1 o0 = some (.inl 1)) (h0 : T 0 0 52 [.ref o0, .int x1, .int 3] Z I G (fun r Z1 I1 G1 => J 103 [some (.ref o0), some (.int x1), w2, some (.int x3), some (.int x4), w5, w6, w7] (r.toList ++ [.long (Int32.toInt64 x4)]) Z1 I1 G1 C)) : J 94 [some (.ref o0), some (.int x1), w2, some (.int x3), some (.int x4), w5, w6, w7] [] Z I G C := by
  refine s_iload hJ d_63_94 rfl ?_
  refine s_i2l hJ d_63_96 ?_
  refine s_aload_n hJ d_63_97 rfl ?_
  refine s_iload_n hJ d_63_98 rfl ?_
  refine s_iconst_3 hJ d_63_99 ?_
  exact s_V2 hJ lm_1_196 d_63_100 (Nat.le_of_ble_eq_true rfl) k0 (h0)
set_option maxRecDepth 4000 in
theorem b_63_103 {mc ms : Nat} {X : Option (Nat × (Nat → Int32))} {T : aj_Tt} {Q : aj_Q} {J : aj_J} (hJ : aj_Cl 1 c_63 (none) false mc ms X T Q J) {o0 : Nat} {x1 : Int32} {w2 : Option Value} {x3 : Int32} {x4 : Int32} {w5 : Option Value} {w6 : Option Value} {w7 : Option Value} {s0 : Int64} {s1 : Int64} {Z : aj_Z} {I : aj_I} {G : aj_G} {C : Nat × Nat} (h0 : s0 < s1 → Q none Z I G) (k0 : Z.2.1 o0 = some (.inl 1)) (h1 : ¬ s0 < s1 → T 0 0 55 [.ref o0, .int x1, .int 3, .int (x4 - 1), .int 0] Z I G (fun r Z1 I1 G1 => J 118 [some (.ref o0), some (.int x1), w2, some (.int x3), some (.int x4), w5, w6, w7] (r.toList ++ []) Z1 I1 G1 C)) : J 103 [some (.ref o0), some (.int x1), w2, some (.int x3), some (.int x4), w5, w6, w7] [.long s0, .long s1] Z I G C := by
  refine s_lif_gt (tgt := 195) hJ d_63_103 d_63_104 rfl (fun c0 => ?_) (fun c0 => ?_)
  · skip
    exact s_vret hJ d_63_195 rfl (h0 c0)
  · skip
    refine s_aload_n hJ d_63_107 rfl ?_
    refine s_iload_n hJ d_63_108 rfl ?_
    refine s_iconst_3 hJ d_63_109 ?_
    refine s_iload hJ d_63_110 rfl ?_
    refine s_iconst_1 hJ d_63_112 ?_
    refine s_isub hJ d_63_113 ?_
    refine s_iconst_0 hJ d_63_114 ?_
    exact s_V4 hJ lm_1_207 d_63_115 (Nat.le_of_ble_eq_true rfl) k0 (h1 c0)
set_option maxRecDepth 4000 in
theorem b_63_118 {mc ms : Nat} {X : Option (Nat × (Nat → Int32))} {T : aj_Tt} {Q : aj_Q} {J : aj_J} (hJ : aj_Cl 1 c_63 (none) false mc ms X T Q J) {o0 : Nat} {x1 : Int32} {w2 : Option Value} {x3 : Int32} {x4 : Int32} {w5 : Option Value} {w6 : Option Value} {w7 : Option Value} {s0 : Int64} {Z : aj_Z} {I : aj_I} {G : aj_G} {C : Nat × Nat} (h0 : J 123 [some (.ref o0), some (.int x1), w2, some (.int x3), some (.int x4), some (.long s0), none, some (.int 0)] [] Z I G C) : J 118 [some (.ref o0), some (.int x1), w2, some (.int x3), some (.int x4), w5, w6, w7] [.long s0] Z I G C := by
  refine s_lstore hJ d_63_118 (Nat.le_of_ble_eq_true rfl) ?_
  refine s_iconst_0 hJ d_63_120 ?_
  refine s_istore hJ d_63_121 (Nat.le_of_ble_eq_true rfl) ?_
  exact h0
set_option maxRecDepth 4000 in
theorem b_63_123 {mc ms : Nat} {X : Option (Nat × (Nat → Int32))} {T : aj_Tt} {Q : aj_Q} {J : aj_J} (hJ : aj_Cl 1 c_63 (none) false mc ms X T Q J) {o0 : Nat} {x1 : Int32} {w2 : Option Value} {x3 : Int32} {x4 : Int32} {x5 : Int64} {w6 : Option Value} {x7 : Int32} {Z : aj_Z} {I : aj_I} {G : aj_G} {C : Nat × Nat} (k0 : Z.2.1 o0 = some (.inl 1)) (h0 : T 0 0 60 [.ref o0, .int x1, .int x4] Z I G (fun r Z1 I1 G1 => J 133 [some (.ref o0), some (.int x1), w2, some (.int x3), some (.int x4), some (.long x5), w6, some (.int x7)] (r.toList ++ [.long (Int32.toInt64 x7)]) Z1 I1 G1 C)) : J 123 [some (.ref o0), some (.int x1), w2, some (.int x3), some (.int x4), some (.long x5), w6, some (.int x7)] [] Z I G C := by
  refine s_iload hJ d_63_123 rfl ?_
  refine s_i2l hJ d_63_125 ?_
  refine s_aload_n hJ d_63_126 rfl ?_
  refine s_iload_n hJ d_63_127 rfl ?_
  refine s_iload hJ d_63_128 rfl ?_
  exact s_V2 hJ lm_1_232 d_63_130 (Nat.le_of_ble_eq_true rfl) k0 (h0)
set_option maxRecDepth 4000 in
theorem b_63_133 {mc ms : Nat} {X : Option (Nat × (Nat → Int32))} {T : aj_Tt} {Q : aj_Q} {J : aj_J} (hJ : aj_Cl 1 c_63 (none) false mc ms X T Q J) {o0 : Nat} {x1 : Int32} {w2 : Option Value} {x3 : Int32} {x4 : Int32} {x5 : Int64} {w6 : Option Value} {x7 : Int32} {s0 : Int64} {s1 : Int64} {q0 : Nat} {Z : aj_Z} {I : aj_I} {G : aj_G} {C : Nat × Nat} (h0 : s0 ≤ s1 → J 94 [some (.ref o0), some (.int x1), w2, some (.int x3), some (.int (x4 + 1)), some (.long x5), w6, some (.int x7)] [] Z I G C) (k0 : Z.2.1 o0 = some (.inl 1)) (r0 : Z.2.2 o0 26 = .ref q0) (h1 : ¬ s0 ≤ s1 → T 0 0 61 [.ref o0, .int x1, .int x3] Z I G (fun r Z1 I1 G1 => J 153 [some (.ref o0), some (.int x1), w2, some (.int x3), some (.int x4), some (.long x5), w6, some (.int x7)] (r.toList ++ [.int ((16 * x1) + x3), .ref q0]) Z1 I1 G1 C)) : J 133 [some (.ref o0), some (.int x1), w2, some (.int x3), some (.int x4), some (.long x5), w6, some (.int x7)] [.long s0, .long s1] Z I G C := by
  refine s_lif_ge (tgt := 189) hJ d_63_133 d_63_134 rfl (fun c0 => ?_) (fun c0 => ?_)
  · skip
    refine s_iinc (v := 1) hJ d_63_189 rfl (by decide) ?_
    refine s_goto (tgt := 94) hJ d_63_192 rfl ?_
    exact h0 c0
  · skip
    refine s_aload_n hJ d_63_137 rfl ?_
    refine s_getr hJ lf_1_58 rfl d_63_138 k0 r0 ?_
    refine s_bipush (v := 16) hJ d_63_141 (by decide) ?_
    refine s_iload_n hJ d_63_143 rfl ?_
    refine s_imul hJ d_63_144 ?_
    refine s_iload_n hJ d_63_145 rfl ?_
    refine s_iadd hJ d_63_146 ?_
    refine s_aload_n hJ d_63_147 rfl ?_
    refine s_iload_n hJ d_63_148 rfl ?_
    refine s_iload_n hJ d_63_149 rfl ?_
    exact s_V2 hJ lm_1_227 d_63_150 (Nat.le_of_ble_eq_true rfl) k0 (h1 c0)
set_option maxRecDepth 4000 in
theorem b_63_153 {mc ms : Nat} {X : Option (Nat × (Nat → Int32))} {T : aj_Tt} {Q : aj_Q} {J : aj_J} (hJ : aj_Cl 1 c_63 (none) false mc ms X T Q J) {o0 : Nat} {x1 : Int32} {w2 : Option Value} {x3 : Int32} {x4 : Int32} {x5 : Int64} {w6 : Option Value} {x7 : Int32} {s0 : Int64} {s1 : Int32} {s2 : Nat} {nk0 : Nat} {q0 : Nat} {nk3 : Nat} {Z : aj_Z} {I : aj_I} {G : aj_G} {C : Nat × Nat} (k0 : Z.2.1 s2 = some (.inr (0, nk0))) (h0 : vp_in s1 nk0) (k2 : Z.2.1 o0 = some (.inl 1)) (r0 : Z.2.2 o0 27 = .ref q0) (k3 : Z.2.1 q0 = some (.inr (1, nk3))) (h1 : vp_in ((16 * x1) + x3) nk3) (h2 : T 0 0 61 [.ref o0, .int x1, .int x3] Z (aj_u2 I s2 (Int32.toNatClampNeg s1) (Int64.toInt32 s0)) (aj_u2 G q0 (Int32.toNatClampNeg ((16 * x1) + x3)) x5) (fun r Z1 I1 G1 => J 176 [some (.ref o0), some (.int x1), w2, some (.int x3), some (.int x4), some (.long x5), w6, some (.int x7)] (r.toList ++ [.long x5]) Z1 I1 G1 C)) : J 153 [some (.ref o0), some (.int x1), w2, some (.int x3), some (.int x4), some (.long x5), w6, some (.int x7)] [.long s0, .int s1, .ref s2] Z I G C := by
  refine s_l2i hJ d_63_153 ?_
  refine s_iast hJ d_63_154 k0 (h0) ?_
  refine s_aload_n hJ d_63_155 rfl ?_
  refine s_getr hJ lf_1_61 rfl d_63_156 k2 r0 ?_
  refine s_bipush (v := 16) hJ d_63_159 (by decide) ?_
  refine s_iload_n hJ d_63_161 rfl ?_
  refine s_imul hJ d_63_162 ?_
  refine s_iload_n hJ d_63_163 rfl ?_
  refine s_iadd hJ d_63_164 ?_
  refine s_lload hJ d_63_165 rfl ?_
  refine s_last hJ d_63_167 k3 (h1) ?_
  refine s_lload hJ d_63_168 rfl ?_
  refine s_aload_n hJ d_63_170 rfl ?_
  refine s_iload_n hJ d_63_171 rfl ?_
  refine s_iload_n hJ d_63_172 rfl ?_
  exact s_V2 hJ lm_1_227 d_63_173 (Nat.le_of_ble_eq_true rfl) k2 (h2)
set_option maxRecDepth 4000 in
theorem b_63_176 {mc ms : Nat} {X : Option (Nat × (Nat → Int32))} {T : aj_Tt} {Q : aj_Q} {J : aj_J} (hJ : aj_Cl 1 c_63 (none) false mc ms X T Q J) {o0 : Nat} {x1 : Int32} {w2 : Option Value} {x3 : Int32} {x4 : Int32} {w5 : Option Value} {w6 : Option Value} {x7 : Int32} {s0 : Int64} {s1 : Int64} {Z : aj_Z} {I : aj_I} {G : aj_G} {C : Nat × Nat} (h0 : J 123 [some (.ref o0), some (.int x1), (aj_clr w2), some (.int (x3 + 1)), some (.int x4), some (.long (s1 + s0)), none, some (.int (x7 + 1))] [] Z I G C) : J 176 [some (.ref o0), some (.int x1), w2, some (.int x3), some (.int x4), w5, w6, some (.int x7)] [.long s0, .long s1] Z I G C := by
  refine s_ladd hJ d_63_176 ?_
  refine s_lstore hJ d_63_177 (Nat.le_of_ble_eq_true rfl) ?_
  refine s_iload_n hJ d_63_179 rfl ?_
  refine s_iconst_1 hJ d_63_180 ?_
  refine s_iadd hJ d_63_181 ?_
  refine s_istore_n hJ d_63_182 (Nat.le_of_ble_eq_true rfl) ?_
  refine s_iinc (v := 1) hJ d_63_183 rfl (by decide) ?_
  refine s_goto (tgt := 123) hJ d_63_186 rfl ?_
  exact h0
-- ReelOfBoxesModel.allInData(I)Z : method 64
theorem d_64_0 : decode c_64 0 = .ok (.iconst (1), 1) := by decide +kernel
theorem d_64_1 : decode c_64 1 = .ok (.istore_n 2, 1) := by decide +kernel
theorem d_64_2 : decode c_64 2 = .ok (.bipush (16), 2) := by decide +kernel
theorem d_64_4 : decode c_64 4 = .ok (.iload_n 1, 1) := by decide +kernel
theorem d_64_5 : decode c_64 5 = .ok (.imul, 1) := by decide +kernel
theorem d_64_6 : decode c_64 6 = .ok (.istore_n 3, 1) := by decide +kernel
theorem d_64_7 : decode c_64 7 = .ok (.iload_n 3, 1) := by decide +kernel
theorem d_64_8 : decode c_64 8 = .ok (.bipush (16), 2) := by decide +kernel
theorem d_64_10 : decode c_64 10 = .ok (.iload_n 1, 1) := by decide +kernel
theorem d_64_11 : decode c_64 11 = .ok (.imul, 1) := by decide +kernel
theorem d_64_12 : decode c_64 12 = .ok (.aload_n 0, 1) := by decide +kernel
theorem d_64_13 : decode c_64 13 = .ok (.getfield 52, 3) := by decide +kernel
theorem d_64_16 : decode c_64 16 = .ok (.iload_n 1, 1) := by decide +kernel
theorem d_64_17 : decode c_64 17 = .ok (.iaload, 1) := by decide +kernel
theorem d_64_18 : decode c_64 18 = .ok (.iadd, 1) := by decide +kernel
theorem d_64_19 : decode c_64 19 = .ok (.if_icmp .ge (66), 3) := by decide +kernel
theorem d_64_22 : decode c_64 22 = .ok (.iload_n 2, 1) := by decide +kernel
theorem d_64_23 : decode c_64 23 = .ok (.ifCond .eq (54), 3) := by decide +kernel
theorem d_64_26 : decode c_64 26 = .ok (.aload_n 0, 1) := by decide +kernel
theorem d_64_27 : decode c_64 27 = .ok (.getfield 58, 3) := by decide +kernel
theorem d_64_30 : decode c_64 30 = .ok (.iload_n 3, 1) := by decide +kernel
theorem d_64_31 : decode c_64 31 = .ok (.iaload, 1) := by decide +kernel
theorem d_64_32 : decode c_64 32 = .ok (.ifCond .eq (41), 3) := by decide +kernel
theorem d_64_35 : decode c_64 35 = .ok (.aload_n 0, 1) := by decide +kernel
theorem d_64_36 : decode c_64 36 = .ok (.getfield 61, 3) := by decide +kernel
theorem d_64_39 : decode c_64 39 = .ok (.iload_n 3, 1) := by decide +kernel
theorem d_64_40 : decode c_64 40 = .ok (.laload, 1) := by decide +kernel
theorem d_64_41 : decode c_64 41 = .ok (.aload_n 0, 1) := by decide +kernel
theorem d_64_42 : decode c_64 42 = .ok (.getfield 167, 3) := by decide +kernel
theorem d_64_45 : decode c_64 45 = .ok (.i2l, 1) := by decide +kernel
theorem d_64_46 : decode c_64 46 = .ok (.lcmp, 1) := by decide +kernel
theorem d_64_47 : decode c_64 47 = .ok (.ifCond .lt (30), 3) := by decide +kernel
theorem d_64_50 : decode c_64 50 = .ok (.aload_n 0, 1) := by decide +kernel
theorem d_64_51 : decode c_64 51 = .ok (.getfield 61, 3) := by decide +kernel
theorem d_64_54 : decode c_64 54 = .ok (.iload_n 3, 1) := by decide +kernel
theorem d_64_55 : decode c_64 55 = .ok (.laload, 1) := by decide +kernel
theorem d_64_56 : decode c_64 56 = .ok (.aload_n 0, 1) := by decide +kernel
theorem d_64_57 : decode c_64 57 = .ok (.getfield 58, 3) := by decide +kernel
theorem d_64_60 : decode c_64 60 = .ok (.iload_n 3, 1) := by decide +kernel
theorem d_64_61 : decode c_64 61 = .ok (.iaload, 1) := by decide +kernel
theorem d_64_62 : decode c_64 62 = .ok (.i2l, 1) := by decide +kernel
theorem d_64_63 : decode c_64 63 = .ok (.ladd, 1) := by decide +kernel
theorem d_64_64 : decode c_64 64 = .ok (.aload_n 0, 1) := by decide +kernel
theorem d_64_65 : decode c_64 65 = .ok (.getfield 170, 3) := by decide +kernel
theorem d_64_68 : decode c_64 68 = .ok (.i2l, 1) := by decide +kernel
theorem d_64_69 : decode c_64 69 = .ok (.lcmp, 1) := by decide +kernel
theorem d_64_70 : decode c_64 70 = .ok (.ifCond .gt (7), 3) := by decide +kernel
theorem d_64_73 : decode c_64 73 = .ok (.iconst (1), 1) := by decide +kernel
theorem d_64_74 : decode c_64 74 = .ok (.goto (4), 3) := by decide +kernel
theorem d_64_77 : decode c_64 77 = .ok (.iconst (0), 1) := by decide +kernel
theorem d_64_78 : decode c_64 78 = .ok (.istore_n 2, 1) := by decide +kernel
theorem d_64_79 : decode c_64 79 = .ok (.iinc 3 (1), 3) := by decide +kernel
theorem d_64_82 : decode c_64 82 = .ok (.goto (-75), 3) := by decide +kernel
theorem d_64_85 : decode c_64 85 = .ok (.iload_n 2, 1) := by decide +kernel
theorem d_64_86 : decode c_64 86 = .ok (.ireturn, 1) := by decide +kernel
set_option maxRecDepth 4000 in
theorem b_64_0 {mc ms : Nat} {X : Option (Nat × (Nat → Int32))} {T : aj_Tt} {Q : aj_Q} {J : aj_J} (hJ : aj_Cl 1 c_64 (some .boolean) false mc ms X T Q J) {o0 : Nat} {x1 : Int32} {Z : aj_Z} {I : aj_I} {G : aj_G} {C : Nat × Nat} (h0 : J 7 [some (.ref o0), some (.int x1), some (.int 1), some (.int (16 * x1))] [] Z I G C) : J 0 [some (.ref o0), some (.int x1), none, none] [] Z I G C := by
  refine s_iconst_1 hJ d_64_0 ?_
  refine s_istore_n hJ d_64_1 (Nat.le_of_ble_eq_true rfl) ?_
  refine s_bipush (v := 16) hJ d_64_2 (by decide) ?_
  refine s_iload_n hJ d_64_4 rfl ?_
  refine s_imul hJ d_64_5 ?_
  refine s_istore_n hJ d_64_6 (Nat.le_of_ble_eq_true rfl) ?_
  exact h0
set_option maxRecDepth 4000 in
theorem b_64_7 {mc ms : Nat} {X : Option (Nat × (Nat → Int32))} {T : aj_Tt} {Q : aj_Q} {J : aj_J} (hJ : aj_Cl 1 c_64 (some .boolean) false mc ms X T Q J) {o0 : Nat} {x1 : Int32} {x2 : Int32} {x3 : Int32} {q0 : Nat} {nk1 : Nat} {q1 : Nat} {nk3 : Nat} {q2 : Nat} {nk5 : Nat} {Z : aj_Z} {I : aj_I} {G : aj_G} {C : Nat × Nat} (k0 : Z.2.1 o0 = some (.inl 1)) (r0 : Z.2.2 o0 24 = .ref q0) (k1 : Z.2.1 q0 = some (.inr (0, nk1))) (h0 : vp_in x1 nk1) (h1 : ((16 * x1) + (I q0 (Int32.toNatClampNeg x1))) ≤ x3 → narrow .boolean (.int x2) = .int x2) (h2 : ((16 * x1) + (I q0 (Int32.toNatClampNeg x1))) ≤ x3 → Q (some (.int x2)) Z I G) (h3 : ¬ ((16 * x1) + (I q0 (Int32.toNatClampNeg x1))) ≤ x3 → x2 = 0 → J 7 [some (.ref o0), some (.int x1), some (.int 0), some (.int (x3 + 1))] [] Z I G C) (r1 : Z.2.2 o0 26 = .ref q1) (k3 : Z.2.1 q1 = some (.inr (0, nk3))) (h4 : ¬ ((16 * x1) + (I q0 (Int32.toNatClampNeg x1))) ≤ x3 → ¬ x2 = 0 → vp_in x3 nk3) (h5 : ¬ ((16 * x1) + (I q0 (Int32.toNatClampNeg x1))) ≤ x3 → ¬ x2 = 0 → (I q1 (Int32.toNatClampNeg x3)) = 0 → J 7 [some (.ref o0), some (.int x1), some (.int 1), some (.int (x3 + 1))] [] Z I G C) (r2 : Z.2.2 o0 27 = .ref q2) (k5 : Z.2.1 q2 = some (.inr (1, nk5))) (h6 : ¬ ((16 * x1) + (I q0 (Int32.toNatClampNeg x1))) ≤ x3 → ¬ x2 = 0 → ¬ (I q1 (Int32.toNatClampNeg x3)) = 0 → vp_in x3 nk5) (h7 : ¬ ((16 * x1) + (I q0 (Int32.toNatClampNeg x1))) ≤ x3 → ¬ x2 = 0 → ¬ (I q1 (Int32.toNatClampNeg x3)) = 0 → (G q2 (Int32.toNatClampNeg x3)) < (Int32.toInt64 (I o0 13)) → J 7 [some (.ref o0), some (.int x1), some (.int 0), some (.int (x3 + 1))] [] Z I G C) (h8 : ¬ ((16 * x1) + (I q0 (Int32.toNatClampNeg x1))) ≤ x3 → ¬ x2 = 0 → ¬ (I q1 (Int32.toNatClampNeg x3)) = 0 → ¬ (G q2 (Int32.toNatClampNeg x3)) < (Int32.toInt64 (I o0 13)) → vp_in x3 nk5) (h9 : ¬ ((16 * x1) + (I q0 (Int32.toNatClampNeg x1))) ≤ x3 → ¬ x2 = 0 → ¬ (I q1 (Int32.toNatClampNeg x3)) = 0 → ¬ (G q2 (Int32.toNatClampNeg x3)) < (Int32.toInt64 (I o0 13)) → vp_in x3 nk3) (h10 : ¬ ((16 * x1) + (I q0 (Int32.toNatClampNeg x1))) ≤ x3 → ¬ x2 = 0 → ¬ (I q1 (Int32.toNatClampNeg x3)) = 0 → ¬ (G q2 (Int32.toNatClampNeg x3)) < (Int32.toInt64 (I o0 13)) → (Int32.toInt64 (I o0 14)) < ((G q2 (Int32.toNatClampNeg x3)) + (Int32.toInt64 (I q1 (Int32.toNatClampNeg x3)))) → J 7 [some (.ref o0), some (.int x1), some (.int 0), some (.int (x3 + 1))] [] Z I G C) (h11 : ¬ ((16 * x1) + (I q0 (Int32.toNatClampNeg x1))) ≤ x3 → ¬ x2 = 0 → ¬ (I q1 (Int32.toNatClampNeg x3)) = 0 → ¬ (G q2 (Int32.toNatClampNeg x3)) < (Int32.toInt64 (I o0 13)) → ¬ (Int32.toInt64 (I o0 14)) < ((G q2 (Int32.toNatClampNeg x3)) + (Int32.toInt64 (I q1 (Int32.toNatClampNeg x3)))) → J 7 [some (.ref o0), some (.int x1), some (.int 1), some (.int (x3 + 1))] [] Z I G C) : J 7 [some (.ref o0), some (.int x1), some (.int x2), some (.int x3)] [] Z I G C := by
  refine s_iload_n hJ d_64_7 rfl ?_
  refine s_bipush (v := 16) hJ d_64_8 (by decide) ?_
  refine s_iload_n hJ d_64_10 rfl ?_
  refine s_imul hJ d_64_11 ?_
  refine s_aload_n hJ d_64_12 rfl ?_
  refine s_getr hJ lf_1_52 rfl d_64_13 k0 r0 ?_
  refine s_iload_n hJ d_64_16 rfl ?_
  refine s_iald hJ d_64_17 k1 (h0) ?_
  refine s_iadd hJ d_64_18 ?_
  refine s_icmp_ge (tgt := 85) hJ d_64_19 rfl (fun c0 => ?_) (fun c0 => ?_)
  · skip
    refine s_iload_n hJ d_64_85 rfl ?_
    exact s_iret hJ d_64_86 rfl (h1 c0) (h2 c0)
  · skip
    refine s_iload_n hJ d_64_22 rfl ?_
    refine s_if_eq (tgt := 77) hJ d_64_23 rfl (fun c1 => ?_) (fun c1 => ?_)
    · skip
      refine s_iconst_0 hJ d_64_77 ?_
      refine s_istore_n hJ d_64_78 (Nat.le_of_ble_eq_true rfl) ?_
      refine s_iinc (v := 1) hJ d_64_79 rfl (by decide) ?_
      refine s_goto (tgt := 7) hJ d_64_82 rfl ?_
      exact h3 c0 c1
    · skip
      refine s_aload_n hJ d_64_26 rfl ?_
      refine s_getr hJ lf_1_58 rfl d_64_27 k0 r1 ?_
      refine s_iload_n hJ d_64_30 rfl ?_
      refine s_iald hJ d_64_31 k3 (h4 c0 c1) ?_
      refine s_if_eq (tgt := 73) hJ d_64_32 rfl (fun c2 => ?_) (fun c2 => ?_)
      · skip
        refine s_iconst_1 hJ d_64_73 ?_
        refine s_goto (tgt := 78) hJ d_64_74 rfl ?_
        refine s_istore_n hJ d_64_78 (Nat.le_of_ble_eq_true rfl) ?_
        refine s_iinc (v := 1) hJ d_64_79 rfl (by decide) ?_
        refine s_goto (tgt := 7) hJ d_64_82 rfl ?_
        exact h5 c0 c1 c2
      · skip
        refine s_aload_n hJ d_64_35 rfl ?_
        refine s_getr hJ lf_1_61 rfl d_64_36 k0 r2 ?_
        refine s_iload_n hJ d_64_39 rfl ?_
        refine s_lald hJ d_64_40 k5 (h6 c0 c1 c2) ?_
        refine s_aload_n hJ d_64_41 rfl ?_
        refine s_geti hJ lf_1_167 rfl d_64_42 k0 ?_
        refine s_i2l hJ d_64_45 ?_
        refine s_lif_lt (tgt := 77) hJ d_64_46 d_64_47 rfl (fun c3 => ?_) (fun c3 => ?_)
        · skip
          refine s_iconst_0 hJ d_64_77 ?_
          refine s_istore_n hJ d_64_78 (Nat.le_of_ble_eq_true rfl) ?_
          refine s_iinc (v := 1) hJ d_64_79 rfl (by decide) ?_
          refine s_goto (tgt := 7) hJ d_64_82 rfl ?_
          exact h7 c0 c1 c2 c3
        · skip
          refine s_aload_n hJ d_64_50 rfl ?_
          refine s_getr hJ lf_1_61 rfl d_64_51 k0 r2 ?_
          refine s_iload_n hJ d_64_54 rfl ?_
          refine s_lald hJ d_64_55 k5 (h8 c0 c1 c2 c3) ?_
          refine s_aload_n hJ d_64_56 rfl ?_
          refine s_getr hJ lf_1_58 rfl d_64_57 k0 r1 ?_
          refine s_iload_n hJ d_64_60 rfl ?_
          refine s_iald hJ d_64_61 k3 (h9 c0 c1 c2 c3) ?_
          refine s_i2l hJ d_64_62 ?_
          refine s_ladd hJ d_64_63 ?_
          refine s_aload_n hJ d_64_64 rfl ?_
          refine s_geti hJ lf_1_170 rfl d_64_65 k0 ?_
          refine s_i2l hJ d_64_68 ?_
          refine s_lif_gt (tgt := 77) hJ d_64_69 d_64_70 rfl (fun c4 => ?_) (fun c4 => ?_)
          · skip
            refine s_iconst_0 hJ d_64_77 ?_
            refine s_istore_n hJ d_64_78 (Nat.le_of_ble_eq_true rfl) ?_
            refine s_iinc (v := 1) hJ d_64_79 rfl (by decide) ?_
            refine s_goto (tgt := 7) hJ d_64_82 rfl ?_
            exact h10 c0 c1 c2 c3 c4
          · skip
            refine s_iconst_1 hJ d_64_73 ?_
            refine s_goto (tgt := 78) hJ d_64_74 rfl ?_
            refine s_istore_n hJ d_64_78 (Nat.le_of_ble_eq_true rfl) ?_
            refine s_iinc (v := 1) hJ d_64_79 rfl (by decide) ?_
            refine s_goto (tgt := 7) hJ d_64_82 rfl ?_
            exact h11 c0 c1 c2 c3 c4
-- ReelOfBoxesModel.readSamples()I : method 65
theorem d_65_0 : decode c_65 0 = .ok (.iconst (0), 1) := by decide +kernel
theorem d_65_1 : decode c_65 1 = .ok (.istore_n 1, 1) := by decide +kernel
theorem d_65_2 : decode c_65 2 = .ok (.iload_n 1, 1) := by decide +kernel
theorem d_65_3 : decode c_65 3 = .ok (.aload_n 0, 1) := by decide +kernel
theorem d_65_4 : decode c_65 4 = .ok (.getfield 161, 3) := by decide +kernel
theorem d_65_7 : decode c_65 7 = .ok (.if_icmp .ge (30), 3) := by decide +kernel
theorem d_65_10 : decode c_65 10 = .ok (.aload_n 0, 1) := by decide +kernel
theorem d_65_11 : decode c_65 11 = .ok (.iload_n 1, 1) := by decide +kernel
theorem d_65_12 : decode c_65 12 = .ok (.invokevirtual 235, 3) := by decide +kernel
theorem d_65_15 : decode c_65 15 = .ok (.ifCond .ne (16), 3) := by decide +kernel
theorem d_65_18 : decode c_65 18 = .ok (.aload_n 0, 1) := by decide +kernel
theorem d_65_19 : decode c_65 19 = .ok (.bipush (6), 2) := by decide +kernel
theorem d_65_21 : decode c_65 21 = .ok (.aload_n 0, 1) := by decide +kernel
theorem d_65_22 : decode c_65 22 = .ok (.getfield 36, 3) := by decide +kernel
theorem d_65_25 : decode c_65 25 = .ok (.iload_n 1, 1) := by decide +kernel
theorem d_65_26 : decode c_65 26 = .ok (.iaload, 1) := by decide +kernel
theorem d_65_27 : decode c_65 27 = .ok (.invokevirtual 177, 3) := by decide +kernel
theorem d_65_30 : decode c_65 30 = .ok (.ireturn, 1) := by decide +kernel
theorem d_65_31 : decode c_65 31 = .ok (.iinc 1 (1), 3) := by decide +kernel
theorem d_65_34 : decode c_65 34 = .ok (.goto (-32), 3) := by decide +kernel
theorem d_65_37 : decode c_65 37 = .ok (.iconst (0), 1) := by decide +kernel
theorem d_65_38 : decode c_65 38 = .ok (.istore_n 1, 1) := by decide +kernel
theorem d_65_39 : decode c_65 39 = .ok (.iload_n 1, 1) := by decide +kernel
theorem d_65_40 : decode c_65 40 = .ok (.aload_n 0, 1) := by decide +kernel
theorem d_65_41 : decode c_65 41 = .ok (.getfield 161, 3) := by decide +kernel
theorem d_65_44 : decode c_65 44 = .ok (.if_icmp .ge (39), 3) := by decide +kernel
theorem d_65_47 : decode c_65 47 = .ok (.aload_n 0, 1) := by decide +kernel
theorem d_65_48 : decode c_65 48 = .ok (.iload_n 1, 1) := by decide +kernel
theorem d_65_49 : decode c_65 49 = .ok (.invokevirtual 238, 3) := by decide +kernel
theorem d_65_52 : decode c_65 52 = .ok (.aload_n 0, 1) := by decide +kernel
theorem d_65_53 : decode c_65 53 = .ok (.iload_n 1, 1) := by decide +kernel
theorem d_65_54 : decode c_65 54 = .ok (.invokevirtual 241, 3) := by decide +kernel
theorem d_65_57 : decode c_65 57 = .ok (.ifCond .ne (20), 3) := by decide +kernel
theorem d_65_60 : decode c_65 60 = .ok (.aload_n 0, 1) := by decide +kernel
theorem d_65_61 : decode c_65 61 = .ok (.bipush (7), 2) := by decide +kernel
theorem d_65_63 : decode c_65 63 = .ok (.aload_n 0, 1) := by decide +kernel
theorem d_65_64 : decode c_65 64 = .ok (.getfield 39, 3) := by decide +kernel
theorem d_65_67 : decode c_65 67 = .ok (.iconst (4), 1) := by decide +kernel
theorem d_65_68 : decode c_65 68 = .ok (.iload_n 1, 1) := by decide +kernel
theorem d_65_69 : decode c_65 69 = .ok (.imul, 1) := by decide +kernel
theorem d_65_70 : decode c_65 70 = .ok (.iconst (3), 1) := by decide +kernel
theorem d_65_71 : decode c_65 71 = .ok (.iadd, 1) := by decide +kernel
theorem d_65_72 : decode c_65 72 = .ok (.iaload, 1) := by decide +kernel
theorem d_65_73 : decode c_65 73 = .ok (.invokevirtual 177, 3) := by decide +kernel
theorem d_65_76 : decode c_65 76 = .ok (.ireturn, 1) := by decide +kernel
theorem d_65_77 : decode c_65 77 = .ok (.iinc 1 (1), 3) := by decide +kernel
theorem d_65_80 : decode c_65 80 = .ok (.goto (-41), 3) := by decide +kernel
theorem d_65_83 : decode c_65 83 = .ok (.iconst (0), 1) := by decide +kernel
theorem d_65_84 : decode c_65 84 = .ok (.ireturn, 1) := by decide +kernel
set_option maxRecDepth 4000 in
theorem b_65_0 {mc ms : Nat} {X : Option (Nat × (Nat → Int32))} {T : aj_Tt} {Q : aj_Q} {J : aj_J} (hJ : aj_Cl 1 c_65 (some .int) false mc ms X T Q J) {o0 : Nat} {Z : aj_Z} {I : aj_I} {G : aj_G} {C : Nat × Nat} (h0 : J 2 [some (.ref o0), some (.int 0)] [] Z I G C) : J 0 [some (.ref o0), none] [] Z I G C := by
  refine s_iconst_0 hJ d_65_0 ?_
  refine s_istore_n hJ d_65_1 (Nat.le_of_ble_eq_true rfl) ?_
  exact h0
set_option maxRecDepth 4000 in
theorem b_65_2 {mc ms : Nat} {X : Option (Nat × (Nat → Int32))} {T : aj_Tt} {Q : aj_Q} {J : aj_J} (hJ : aj_Cl 1 c_65 (some .int) false mc ms X T Q J) {o0 : Nat} {x1 : Int32} {Z : aj_Z} {I : aj_I} {G : aj_G} {C : Nat × Nat} (k0 : Z.2.1 o0 = some (.inl 1)) (h0 : (I o0 15) ≤ x1 → J 39 [some (.ref o0), some (.int 0)] [] Z I G C) (h1 : ¬ (I o0 15) ≤ x1 → T 0 0 62 [.ref o0, .int x1] Z I G (fun r Z1 I1 G1 => J 15 [some (.ref o0), some (.int x1)] (r.toList ++ []) Z1 I1 G1 C)) : J 2 [some (.ref o0), some (.int x1)] [] Z I G C := by
  refine s_iload_n hJ d_65_2 rfl ?_
  refine s_aload_n hJ d_65_3 rfl ?_
  refine s_geti hJ lf_1_161 rfl d_65_4 k0 ?_
  refine s_icmp_ge (tgt := 37) hJ d_65_7 rfl (fun c0 => ?_) (fun c0 => ?_)
  · skip
    refine s_iconst_0 hJ d_65_37 ?_
    refine s_istore_n hJ d_65_38 (Nat.le_of_ble_eq_true rfl) ?_
    exact h0 c0
  · skip
    refine s_aload_n hJ d_65_10 rfl ?_
    refine s_iload_n hJ d_65_11 rfl ?_
    exact s_V1 hJ lm_1_235 d_65_12 (Nat.le_of_ble_eq_true rfl) k0 (h1 c0)
set_option maxRecDepth 4000 in
theorem b_65_15 {mc ms : Nat} {X : Option (Nat × (Nat → Int32))} {T : aj_Tt} {Q : aj_Q} {J : aj_J} (hJ : aj_Cl 1 c_65 (some .int) false mc ms X T Q J) {o0 : Nat} {x1 : Int32} {s0 : Int32} {q0 : Nat} {nk1 : Nat} {Z : aj_Z} {I : aj_I} {G : aj_G} {C : Nat × Nat} (h0 : ¬ s0 = 0 → J 2 [some (.ref o0), some (.int (x1 + 1))] [] Z I G C) (k0 : Z.2.1 o0 = some (.inl 1)) (r0 : Z.2.2 o0 16 = .ref q0) (k1 : Z.2.1 q0 = some (.inr (0, nk1))) (h1 : s0 = 0 → vp_in x1 nk1) (h2 : s0 = 0 → T 0 0 48 [.ref o0, .int 6, .int (I q0 (Int32.toNatClampNeg x1))] Z I G (fun r Z1 I1 G1 => J 30 [some (.ref o0), some (.int x1)] (r.toList ++ []) Z1 I1 G1 C)) : J 15 [some (.ref o0), some (.int x1)] [.int s0] Z I G C := by
  refine s_if_ne (tgt := 31) hJ d_65_15 rfl (fun c0 => ?_) (fun c0 => ?_)
  · skip
    refine s_iinc (v := 1) hJ d_65_31 rfl (by decide) ?_
    refine s_goto (tgt := 2) hJ d_65_34 rfl ?_
    exact h0 c0
  · skip
    refine s_aload_n hJ d_65_18 rfl ?_
    refine s_bipush (v := 6) hJ d_65_19 (by decide) ?_
    refine s_aload_n hJ d_65_21 rfl ?_
    refine s_getr hJ lf_1_36 rfl d_65_22 k0 r0 ?_
    refine s_iload_n hJ d_65_25 rfl ?_
    refine s_iald hJ d_65_26 k1 (h1 c0) ?_
    exact s_V2 hJ lm_1_177 d_65_27 (Nat.le_of_ble_eq_true rfl) k0 (h2 c0)
set_option maxRecDepth 4000 in
theorem b_65_30 {mc ms : Nat} {X : Option (Nat × (Nat → Int32))} {T : aj_Tt} {Q : aj_Q} {J : aj_J} (hJ : aj_Cl 1 c_65 (some .int) false mc ms X T Q J) {w0 : Option Value} {w1 : Option Value} {s0 : Int32} {Z : aj_Z} {I : aj_I} {G : aj_G} {C : Nat × Nat} (h0 : Q (some (.int s0)) Z I G) : J 30 [w0, w1] [.int s0] Z I G C := by
  exact s_iret hJ d_65_30 rfl rfl (h0)
set_option maxRecDepth 4000 in
theorem b_65_39 {mc ms : Nat} {X : Option (Nat × (Nat → Int32))} {T : aj_Tt} {Q : aj_Q} {J : aj_J} (hJ : aj_Cl 1 c_65 (some .int) false mc ms X T Q J) {o0 : Nat} {x1 : Int32} {Z : aj_Z} {I : aj_I} {G : aj_G} {C : Nat × Nat} (k0 : Z.2.1 o0 = some (.inl 1)) (h0 : (I o0 15) ≤ x1 → Q (some (.int 0)) Z I G) (h1 : ¬ (I o0 15) ≤ x1 → T 0 0 63 [.ref o0, .int x1] Z I G (fun r Z1 I1 G1 => J 52 [some (.ref o0), some (.int x1)] (r.toList ++ []) Z1 I1 G1 C)) : J 39 [some (.ref o0), some (.int x1)] [] Z I G C := by
  refine s_iload_n hJ d_65_39 rfl ?_
  refine s_aload_n hJ d_65_40 rfl ?_
  refine s_geti hJ lf_1_161 rfl d_65_41 k0 ?_
  refine s_icmp_ge (tgt := 83) hJ d_65_44 rfl (fun c0 => ?_) (fun c0 => ?_)
  · skip
    refine s_iconst_0 hJ d_65_83 ?_
    exact s_iret hJ d_65_84 rfl rfl (h0 c0)
  · skip
    refine s_aload_n hJ d_65_47 rfl ?_
    refine s_iload_n hJ d_65_48 rfl ?_
    exact s_V1 hJ lm_1_238 d_65_49 (Nat.le_of_ble_eq_true rfl) k0 (h1 c0)
set_option maxRecDepth 4000 in
theorem b_65_52 {mc ms : Nat} {X : Option (Nat × (Nat → Int32))} {T : aj_Tt} {Q : aj_Q} {J : aj_J} (hJ : aj_Cl 1 c_65 (some .int) false mc ms X T Q J) {o0 : Nat} {x1 : Int32} {Z : aj_Z} {I : aj_I} {G : aj_G} {C : Nat × Nat} (k0 : Z.2.1 o0 = some (.inl 1)) (h0 : T 0 0 64 [.ref o0, .int x1] Z I G (fun r Z1 I1 G1 => J 57 [some (.ref o0), some (.int x1)] (r.toList ++ []) Z1 I1 G1 C)) : J 52 [some (.ref o0), some (.int x1)] [] Z I G C := by
  refine s_aload_n hJ d_65_52 rfl ?_
  refine s_iload_n hJ d_65_53 rfl ?_
  exact s_V1 hJ lm_1_241 d_65_54 (Nat.le_of_ble_eq_true rfl) k0 (h0)
set_option maxRecDepth 4000 in
theorem b_65_57 {mc ms : Nat} {X : Option (Nat × (Nat → Int32))} {T : aj_Tt} {Q : aj_Q} {J : aj_J} (hJ : aj_Cl 1 c_65 (some .int) false mc ms X T Q J) {o0 : Nat} {x1 : Int32} {s0 : Int32} {q0 : Nat} {nk1 : Nat} {Z : aj_Z} {I : aj_I} {G : aj_G} {C : Nat × Nat} (h0 : ¬ s0 = 0 → J 39 [some (.ref o0), some (.int (x1 + 1))] [] Z I G C) (k0 : Z.2.1 o0 = some (.inl 1)) (r0 : Z.2.2 o0 17 = .ref q0) (k1 : Z.2.1 q0 = some (.inr (0, nk1))) (h1 : s0 = 0 → vp_in ((4 * x1) + 3) nk1) (h2 : s0 = 0 → T 0 0 48 [.ref o0, .int 7, .int (I q0 (Int32.toNatClampNeg ((4 * x1) + 3)))] Z I G (fun r Z1 I1 G1 => J 76 [some (.ref o0), some (.int x1)] (r.toList ++ []) Z1 I1 G1 C)) : J 57 [some (.ref o0), some (.int x1)] [.int s0] Z I G C := by
  refine s_if_ne (tgt := 77) hJ d_65_57 rfl (fun c0 => ?_) (fun c0 => ?_)
  · skip
    refine s_iinc (v := 1) hJ d_65_77 rfl (by decide) ?_
    refine s_goto (tgt := 39) hJ d_65_80 rfl ?_
    exact h0 c0
  · skip
    refine s_aload_n hJ d_65_60 rfl ?_
    refine s_bipush (v := 7) hJ d_65_61 (by decide) ?_
    refine s_aload_n hJ d_65_63 rfl ?_
    refine s_getr hJ lf_1_39 rfl d_65_64 k0 r0 ?_
    refine s_iconst_4 hJ d_65_67 ?_
    refine s_iload_n hJ d_65_68 rfl ?_
    refine s_imul hJ d_65_69 ?_
    refine s_iconst_3 hJ d_65_70 ?_
    refine s_iadd hJ d_65_71 ?_
    refine s_iald hJ d_65_72 k1 (h1 c0) ?_
    exact s_V2 hJ lm_1_177 d_65_73 (Nat.le_of_ble_eq_true rfl) k0 (h2 c0)
set_option maxRecDepth 4000 in
theorem b_65_76 {mc ms : Nat} {X : Option (Nat × (Nat → Int32))} {T : aj_Tt} {Q : aj_Q} {J : aj_J} (hJ : aj_Cl 1 c_65 (some .int) false mc ms X T Q J) {w0 : Option Value} {w1 : Option Value} {s0 : Int32} {Z : aj_Z} {I : aj_I} {G : aj_G} {C : Nat × Nat} (h0 : Q (some (.int s0)) Z I G) : J 76 [w0, w1] [.int s0] Z I G C := by
  exact s_iret hJ d_65_76 rfl rfl (h0)
-- ReelOfBoxesModel.keep()V : method 66
theorem d_66_0 : decode c_66 0 = .ok (.aload_n 0, 1) := by decide +kernel
theorem d_66_1 : decode c_66 1 = .ok (.aload_n 0, 1) := by decide +kernel
theorem d_66_2 : decode c_66 2 = .ok (.getfield 161, 3) := by decide +kernel
theorem d_66_5 : decode c_66 5 = .ok (.putfield 64, 3) := by decide +kernel
theorem d_66_8 : decode c_66 8 = .ok (.iconst (0), 1) := by decide +kernel
theorem d_66_9 : decode c_66 9 = .ok (.istore_n 1, 1) := by decide +kernel
theorem d_66_10 : decode c_66 10 = .ok (.iload_n 1, 1) := by decide +kernel
theorem d_66_11 : decode c_66 11 = .ok (.aload_n 0, 1) := by decide +kernel
theorem d_66_12 : decode c_66 12 = .ok (.getfield 161, 3) := by decide +kernel
theorem d_66_15 : decode c_66 15 = .ok (.if_icmp .ge (21), 3) := by decide +kernel
theorem d_66_18 : decode c_66 18 = .ok (.aload_n 0, 1) := by decide +kernel
theorem d_66_19 : decode c_66 19 = .ok (.getfield 7, 3) := by decide +kernel
theorem d_66_22 : decode c_66 22 = .ok (.iload_n 1, 1) := by decide +kernel
theorem d_66_23 : decode c_66 23 = .ok (.aload_n 0, 1) := by decide +kernel
theorem d_66_24 : decode c_66 24 = .ok (.getfield 52, 3) := by decide +kernel
theorem d_66_27 : decode c_66 27 = .ok (.iload_n 1, 1) := by decide +kernel
theorem d_66_28 : decode c_66 28 = .ok (.iaload, 1) := by decide +kernel
theorem d_66_29 : decode c_66 29 = .ok (.iastore, 1) := by decide +kernel
theorem d_66_30 : decode c_66 30 = .ok (.iinc 1 (1), 3) := by decide +kernel
theorem d_66_33 : decode c_66 33 = .ok (.goto (-23), 3) := by decide +kernel
theorem d_66_36 : decode c_66 36 = .ok (.iconst (0), 1) := by decide +kernel
theorem d_66_37 : decode c_66 37 = .ok (.istore_n 1, 1) := by decide +kernel
theorem d_66_38 : decode c_66 38 = .ok (.iload_n 1, 1) := by decide +kernel
theorem d_66_39 : decode c_66 39 = .ok (.bipush (48), 2) := by decide +kernel
theorem d_66_41 : decode c_66 41 = .ok (.if_icmp .ge (126), 3) := by decide +kernel
theorem d_66_44 : decode c_66 44 = .ok (.aload_n 0, 1) := by decide +kernel
theorem d_66_45 : decode c_66 45 = .ok (.getfield 13, 3) := by decide +kernel
theorem d_66_48 : decode c_66 48 = .ok (.iload_n 1, 1) := by decide +kernel
theorem d_66_49 : decode c_66 49 = .ok (.aload_n 0, 1) := by decide +kernel
theorem d_66_50 : decode c_66 50 = .ok (.getfield 55, 3) := by decide +kernel
theorem d_66_53 : decode c_66 53 = .ok (.iload_n 1, 1) := by decide +kernel
theorem d_66_54 : decode c_66 54 = .ok (.iaload, 1) := by decide +kernel
theorem d_66_55 : decode c_66 55 = .ok (.iastore, 1) := by decide +kernel
theorem d_66_56 : decode c_66 56 = .ok (.aload_n 0, 1) := by decide +kernel
theorem d_66_57 : decode c_66 57 = .ok (.getfield 16, 3) := by decide +kernel
theorem d_66_60 : decode c_66 60 = .ok (.iload_n 1, 1) := by decide +kernel
theorem d_66_61 : decode c_66 61 = .ok (.aload_n 0, 1) := by decide +kernel
theorem d_66_62 : decode c_66 62 = .ok (.getfield 58, 3) := by decide +kernel
theorem d_66_65 : decode c_66 65 = .ok (.iload_n 1, 1) := by decide +kernel
theorem d_66_66 : decode c_66 66 = .ok (.iaload, 1) := by decide +kernel
theorem d_66_67 : decode c_66 67 = .ok (.iastore, 1) := by decide +kernel
theorem d_66_68 : decode c_66 68 = .ok (.iload_n 1, 1) := by decide +kernel
theorem d_66_69 : decode c_66 69 = .ok (.bipush (16), 2) := by decide +kernel
theorem d_66_71 : decode c_66 71 = .ok (.idiv, 1) := by decide +kernel
theorem d_66_72 : decode c_66 72 = .ok (.aload_n 0, 1) := by decide +kernel
theorem d_66_73 : decode c_66 73 = .ok (.getfield 161, 3) := by decide +kernel
theorem d_66_76 : decode c_66 76 = .ok (.if_icmp .ge (23), 3) := by decide +kernel
theorem d_66_79 : decode c_66 79 = .ok (.iload_n 1, 1) := by decide +kernel
theorem d_66_80 : decode c_66 80 = .ok (.bipush (16), 2) := by decide +kernel
theorem d_66_82 : decode c_66 82 = .ok (.irem, 1) := by decide +kernel
theorem d_66_83 : decode c_66 83 = .ok (.aload_n 0, 1) := by decide +kernel
theorem d_66_84 : decode c_66 84 = .ok (.getfield 52, 3) := by decide +kernel
theorem d_66_87 : decode c_66 87 = .ok (.iload_n 1, 1) := by decide +kernel
theorem d_66_88 : decode c_66 88 = .ok (.bipush (16), 2) := by decide +kernel
theorem d_66_90 : decode c_66 90 = .ok (.idiv, 1) := by decide +kernel
theorem d_66_91 : decode c_66 91 = .ok (.iaload, 1) := by decide +kernel
theorem d_66_92 : decode c_66 92 = .ok (.if_icmp .ge (7), 3) := by decide +kernel
theorem d_66_95 : decode c_66 95 = .ok (.iconst (1), 1) := by decide +kernel
theorem d_66_96 : decode c_66 96 = .ok (.goto (4), 3) := by decide +kernel
theorem d_66_99 : decode c_66 99 = .ok (.iconst (0), 1) := by decide +kernel
theorem d_66_100 : decode c_66 100 = .ok (.istore_n 2, 1) := by decide +kernel
theorem d_66_101 : decode c_66 101 = .ok (.lconst 0, 1) := by decide +kernel
theorem d_66_102 : decode c_66 102 = .ok (.lstore_n 3, 1) := by decide +kernel
theorem d_66_103 : decode c_66 103 = .ok (.iload_n 2, 1) := by decide +kernel
theorem d_66_104 : decode c_66 104 = .ok (.ifCond .eq (14), 3) := by decide +kernel
theorem d_66_107 : decode c_66 107 = .ok (.aload_n 0, 1) := by decide +kernel
theorem d_66_108 : decode c_66 108 = .ok (.getfield 58, 3) := by decide +kernel
theorem d_66_111 : decode c_66 111 = .ok (.iload_n 1, 1) := by decide +kernel
theorem d_66_112 : decode c_66 112 = .ok (.iaload, 1) := by decide +kernel
theorem d_66_113 : decode c_66 113 = .ok (.iconst (1), 1) := by decide +kernel
theorem d_66_114 : decode c_66 114 = .ok (.isub, 1) := by decide +kernel
theorem d_66_115 : decode c_66 115 = .ok (.goto (4), 3) := by decide +kernel
theorem d_66_118 : decode c_66 118 = .ok (.iconst (-1), 1) := by decide +kernel
theorem d_66_119 : decode c_66 119 = .ok (.istore 5, 2) := by decide +kernel
theorem d_66_121 : decode c_66 121 = .ok (.iload 5, 2) := by decide +kernel
theorem d_66_123 : decode c_66 123 = .ok (.ifCond .lt (31), 3) := by decide +kernel
theorem d_66_126 : decode c_66 126 = .ok (.lload_n 3, 1) := by decide +kernel
theorem d_66_127 : decode c_66 127 = .ok (.bipush (8), 2) := by decide +kernel
theorem d_66_129 : decode c_66 129 = .ok (.lshl, 1) := by decide +kernel
theorem d_66_130 : decode c_66 130 = .ok (.aload_n 0, 1) := by decide +kernel
theorem d_66_131 : decode c_66 131 = .ok (.getfield 23, 3) := by decide +kernel
theorem d_66_134 : decode c_66 134 = .ok (.aload_n 0, 1) := by decide +kernel
theorem d_66_135 : decode c_66 135 = .ok (.getfield 61, 3) := by decide +kernel
theorem d_66_138 : decode c_66 138 = .ok (.iload_n 1, 1) := by decide +kernel
theorem d_66_139 : decode c_66 139 = .ok (.laload, 1) := by decide +kernel
theorem d_66_140 : decode c_66 140 = .ok (.l2i, 1) := by decide +kernel
theorem d_66_141 : decode c_66 141 = .ok (.iload 5, 2) := by decide +kernel
theorem d_66_143 : decode c_66 143 = .ok (.iadd, 1) := by decide +kernel
theorem d_66_144 : decode c_66 144 = .ok (.iaload, 1) := by decide +kernel
theorem d_66_145 : decode c_66 145 = .ok (.i2l, 1) := by decide +kernel
theorem d_66_146 : decode c_66 146 = .ok (.lor, 1) := by decide +kernel
theorem d_66_147 : decode c_66 147 = .ok (.lstore_n 3, 1) := by decide +kernel
theorem d_66_148 : decode c_66 148 = .ok (.iinc 5 (-1), 3) := by decide +kernel
theorem d_66_151 : decode c_66 151 = .ok (.goto (-30), 3) := by decide +kernel
theorem d_66_154 : decode c_66 154 = .ok (.aload_n 0, 1) := by decide +kernel
theorem d_66_155 : decode c_66 155 = .ok (.getfield 19, 3) := by decide +kernel
theorem d_66_158 : decode c_66 158 = .ok (.iload_n 1, 1) := by decide +kernel
theorem d_66_159 : decode c_66 159 = .ok (.lload_n 3, 1) := by decide +kernel
theorem d_66_160 : decode c_66 160 = .ok (.lastore, 1) := by decide +kernel
theorem d_66_161 : decode c_66 161 = .ok (.iinc 1 (1), 3) := by decide +kernel
theorem d_66_164 : decode c_66 164 = .ok (.goto (-126), 3) := by decide +kernel
theorem d_66_167 : decode c_66 167 = .ok (.return_, 1) := by decide +kernel
set_option maxRecDepth 4000 in
theorem b_66_0 {mc ms : Nat} {X : Option (Nat × (Nat → Int32))} {T : aj_Tt} {Q : aj_Q} {J : aj_J} (hJ : aj_Cl 1 c_66 (none) false mc ms X T Q J) {o0 : Nat} {Z : aj_Z} {I : aj_I} {G : aj_G} {C : Nat × Nat} (k0 : Z.2.1 o0 = some (.inl 1)) (h0 : J 10 [some (.ref o0), some (.int 0), none, none, none, none] [] Z (aj_u2 I o0 0 (I o0 15)) G C) : J 0 [some (.ref o0), none, none, none, none, none] [] Z I G C := by
  refine s_aload_n hJ d_66_0 rfl ?_
  refine s_aload_n hJ d_66_1 rfl ?_
  refine s_geti hJ lf_1_161 rfl d_66_2 k0 ?_
  refine s_puti hJ lf_1_64 rfl d_66_5 k0 ?_
  refine s_iconst_0 hJ d_66_8 ?_
  refine s_istore_n hJ d_66_9 (Nat.le_of_ble_eq_true rfl) ?_
  exact h0
set_option maxRecDepth 4000 in
theorem b_66_10 {mc ms : Nat} {X : Option (Nat × (Nat → Int32))} {T : aj_Tt} {Q : aj_Q} {J : aj_J} (hJ : aj_Cl 1 c_66 (none) false mc ms X T Q J) {o0 : Nat} {x1 : Int32} {w2 : Option Value} {w3 : Option Value} {w4 : Option Value} {w5 : Option Value} {q0 : Nat} {q1 : Nat} {nk1 : Nat} {nk3 : Nat} {Z : aj_Z} {I : aj_I} {G : aj_G} {C : Nat × Nat} (k0 : Z.2.1 o0 = some (.inl 1)) (h0 : (I o0 15) ≤ x1 → J 38 [some (.ref o0), some (.int 0), w2, w3, w4, w5] [] Z I G C) (r0 : Z.2.2 o0 1 = .ref q0) (r1 : Z.2.2 o0 24 = .ref q1) (k1 : Z.2.1 q1 = some (.inr (0, nk1))) (h1 : ¬ (I o0 15) ≤ x1 → vp_in x1 nk1) (k3 : Z.2.1 q0 = some (.inr (0, nk3))) (h2 : ¬ (I o0 15) ≤ x1 → vp_in x1 nk3) (h3 : ¬ (I o0 15) ≤ x1 → J 10 [some (.ref o0), some (.int (x1 + 1)), w2, w3, w4, w5] [] Z (aj_u2 I q0 (Int32.toNatClampNeg x1) (I q1 (Int32.toNatClampNeg x1))) G C) : J 10 [some (.ref o0), some (.int x1), w2, w3, w4, w5] [] Z I G C := by
  refine s_iload_n hJ d_66_10 rfl ?_
  refine s_aload_n hJ d_66_11 rfl ?_
  refine s_geti hJ lf_1_161 rfl d_66_12 k0 ?_
  refine s_icmp_ge (tgt := 36) hJ d_66_15 rfl (fun c0 => ?_) (fun c0 => ?_)
  · skip
    refine s_iconst_0 hJ d_66_36 ?_
    refine s_istore_n hJ d_66_37 (Nat.le_of_ble_eq_true rfl) ?_
    exact h0 c0
  · skip
    refine s_aload_n hJ d_66_18 rfl ?_
    refine s_getr hJ lf_1_7 rfl d_66_19 k0 r0 ?_
    refine s_iload_n hJ d_66_22 rfl ?_
    refine s_aload_n hJ d_66_23 rfl ?_
    refine s_getr hJ lf_1_52 rfl d_66_24 k0 r1 ?_
    refine s_iload_n hJ d_66_27 rfl ?_
    refine s_iald hJ d_66_28 k1 (h1 c0) ?_
    refine s_iast hJ d_66_29 k3 (h2 c0) ?_
    refine s_iinc (v := 1) hJ d_66_30 rfl (by decide) ?_
    refine s_goto (tgt := 10) hJ d_66_33 rfl ?_
    exact h3 c0
set_option maxRecDepth 4000 in
theorem b_66_38 {mc ms : Nat} {X : Option (Nat × (Nat → Int32))} {T : aj_Tt} {Q : aj_Q} {J : aj_J} (hJ : aj_Cl 1 c_66 (none) false mc ms X T Q J) {o0 : Nat} {x1 : Int32} {w2 : Option Value} {w3 : Option Value} {w4 : Option Value} {w5 : Option Value} {q0 : Nat} {q1 : Nat} {nk1 : Nat} {nk3 : Nat} {q2 : Nat} {q3 : Nat} {nk5 : Nat} {nk7 : Nat} {q4 : Nat} {nk9 : Nat} {Z : aj_Z} {I : aj_I} {G : aj_G} {C : Nat × Nat} (h0 : 48 ≤ x1 → Q none Z I G) (k0 : Z.2.1 o0 = some (.inl 1)) (r0 : Z.2.2 o0 2 = .ref q0) (r1 : Z.2.2 o0 25 = .ref q1) (k1 : Z.2.1 q1 = some (.inr (0, nk1))) (h1 : ¬ 48 ≤ x1 → vp_in x1 nk1) (k3 : Z.2.1 q0 = some (.inr (0, nk3))) (h2 : ¬ 48 ≤ x1 → vp_in x1 nk3) (r2 : Z.2.2 o0 3 = .ref q2) (r3 : Z.2.2 o0 26 = .ref q3) (k5 : Z.2.1 q3 = some (.inr (0, nk5))) (h3 : ¬ 48 ≤ x1 → vp_in x1 nk5) (k7 : Z.2.1 q2 = some (.inr (0, nk7))) (h4 : ¬ 48 ≤ x1 → vp_in x1 nk7) (h5 : ¬ 48 ≤ x1 → ((aj_u2 (aj_u2 I q0 (Int32.toNatClampNeg x1) (I q1 (Int32.toNatClampNeg x1))) q2 (Int32.toNatClampNeg x1) ((aj_u2 I q0 (Int32.toNatClampNeg x1) (I q1 (Int32.toNatClampNeg x1))) q3 (Int32.toNatClampNeg x1))) o0 15) ≤ (x1 / 16) → J 99 [some (.ref o0), some (.int x1), w2, w3, w4, w5] [] Z (aj_u2 (aj_u2 I q0 (Int32.toNatClampNeg x1) (I q1 (Int32.toNatClampNeg x1))) q2 (Int32.toNatClampNeg x1) ((aj_u2 I q0 (Int32.toNatClampNeg x1) (I q1 (Int32.toNatClampNeg x1))) q3 (Int32.toNatClampNeg x1))) G C) (r4 : Z.2.2 o0 24 = .ref q4) (k9 : Z.2.1 q4 = some (.inr (0, nk9))) (h6 : ¬ 48 ≤ x1 → ¬ ((aj_u2 (aj_u2 I q0 (Int32.toNatClampNeg x1) (I q1 (Int32.toNatClampNeg x1))) q2 (Int32.toNatClampNeg x1) ((aj_u2 I q0 (Int32.toNatClampNeg x1) (I q1 (Int32.toNatClampNeg x1))) q3 (Int32.toNatClampNeg x1))) o0 15) ≤ (x1 / 16) → vp_in (x1 / 16) nk9) (h7 : ¬ 48 ≤ x1 → ¬ ((aj_u2 (aj_u2 I q0 (Int32.toNatClampNeg x1) (I q1 (Int32.toNatClampNeg x1))) q2 (Int32.toNatClampNeg x1) ((aj_u2 I q0 (Int32.toNatClampNeg x1) (I q1 (Int32.toNatClampNeg x1))) q3 (Int32.toNatClampNeg x1))) o0 15) ≤ (x1 / 16) → ((aj_u2 (aj_u2 I q0 (Int32.toNatClampNeg x1) (I q1 (Int32.toNatClampNeg x1))) q2 (Int32.toNatClampNeg x1) ((aj_u2 I q0 (Int32.toNatClampNeg x1) (I q1 (Int32.toNatClampNeg x1))) q3 (Int32.toNatClampNeg x1))) q4 (Int32.toNatClampNeg (x1 / 16))) ≤ (x1 - x1 / 16 * 16) → J 99 [some (.ref o0), some (.int x1), w2, w3, w4, w5] [] Z (aj_u2 (aj_u2 I q0 (Int32.toNatClampNeg x1) (I q1 (Int32.toNatClampNeg x1))) q2 (Int32.toNatClampNeg x1) ((aj_u2 I q0 (Int32.toNatClampNeg x1) (I q1 (Int32.toNatClampNeg x1))) q3 (Int32.toNatClampNeg x1))) G C) (h8 : ¬ 48 ≤ x1 → ¬ ((aj_u2 (aj_u2 I q0 (Int32.toNatClampNeg x1) (I q1 (Int32.toNatClampNeg x1))) q2 (Int32.toNatClampNeg x1) ((aj_u2 I q0 (Int32.toNatClampNeg x1) (I q1 (Int32.toNatClampNeg x1))) q3 (Int32.toNatClampNeg x1))) o0 15) ≤ (x1 / 16) → ¬ ((aj_u2 (aj_u2 I q0 (Int32.toNatClampNeg x1) (I q1 (Int32.toNatClampNeg x1))) q2 (Int32.toNatClampNeg x1) ((aj_u2 I q0 (Int32.toNatClampNeg x1) (I q1 (Int32.toNatClampNeg x1))) q3 (Int32.toNatClampNeg x1))) q4 (Int32.toNatClampNeg (x1 / 16))) ≤ (x1 - x1 / 16 * 16) → J 100 [some (.ref o0), some (.int x1), w2, w3, w4, w5] [.int 1] Z (aj_u2 (aj_u2 I q0 (Int32.toNatClampNeg x1) (I q1 (Int32.toNatClampNeg x1))) q2 (Int32.toNatClampNeg x1) ((aj_u2 I q0 (Int32.toNatClampNeg x1) (I q1 (Int32.toNatClampNeg x1))) q3 (Int32.toNatClampNeg x1))) G C) : J 38 [some (.ref o0), some (.int x1), w2, w3, w4, w5] [] Z I G C := by
  refine s_iload_n hJ d_66_38 rfl ?_
  refine s_bipush (v := 48) hJ d_66_39 (by decide) ?_
  refine s_icmp_ge (tgt := 167) hJ d_66_41 rfl (fun c0 => ?_) (fun c0 => ?_)
  · skip
    exact s_vret hJ d_66_167 rfl (h0 c0)
  · skip
    refine s_aload_n hJ d_66_44 rfl ?_
    refine s_getr hJ lf_1_13 rfl d_66_45 k0 r0 ?_
    refine s_iload_n hJ d_66_48 rfl ?_
    refine s_aload_n hJ d_66_49 rfl ?_
    refine s_getr hJ lf_1_55 rfl d_66_50 k0 r1 ?_
    refine s_iload_n hJ d_66_53 rfl ?_
    refine s_iald hJ d_66_54 k1 (h1 c0) ?_
    refine s_iast hJ d_66_55 k3 (h2 c0) ?_
    refine s_aload_n hJ d_66_56 rfl ?_
    refine s_getr hJ lf_1_16 rfl d_66_57 k0 r2 ?_
    refine s_iload_n hJ d_66_60 rfl ?_
    refine s_aload_n hJ d_66_61 rfl ?_
    refine s_getr hJ lf_1_58 rfl d_66_62 k0 r3 ?_
    refine s_iload_n hJ d_66_65 rfl ?_
    refine s_iald hJ d_66_66 k5 (h3 c0) ?_
    refine s_iast hJ d_66_67 k7 (h4 c0) ?_
    refine s_iload_n hJ d_66_68 rfl ?_
    refine s_bipush (v := 16) hJ d_66_69 (by decide) ?_
    refine s_idiv hJ d_66_71 (by decide) ?_
    refine s_aload_n hJ d_66_72 rfl ?_
    refine s_geti hJ lf_1_161 rfl d_66_73 k0 ?_
    refine s_icmp_ge (tgt := 99) hJ d_66_76 rfl (fun c1 => ?_) (fun c1 => ?_)
    · skip
      exact h5 c0 c1
    · skip
      refine s_iload_n hJ d_66_79 rfl ?_
      refine s_bipush (v := 16) hJ d_66_80 (by decide) ?_
      refine s_irem hJ d_66_82 (by decide) ?_
      refine s_aload_n hJ d_66_83 rfl ?_
      refine s_getr hJ lf_1_52 rfl d_66_84 k0 r4 ?_
      refine s_iload_n hJ d_66_87 rfl ?_
      refine s_bipush (v := 16) hJ d_66_88 (by decide) ?_
      refine s_idiv hJ d_66_90 (by decide) ?_
      refine s_iald hJ d_66_91 k9 (h6 c0 c1) ?_
      refine s_icmp_ge (tgt := 99) hJ d_66_92 rfl (fun c2 => ?_) (fun c2 => ?_)
      · skip
        exact h7 c0 c1 c2
      · skip
        refine s_iconst_1 hJ d_66_95 ?_
        refine s_goto (tgt := 100) hJ d_66_96 rfl ?_
        exact h8 c0 c1 c2
set_option maxRecDepth 4000 in
theorem b_66_99 {mc ms : Nat} {X : Option (Nat × (Nat → Int32))} {T : aj_Tt} {Q : aj_Q} {J : aj_J} (hJ : aj_Cl 1 c_66 (none) false mc ms X T Q J) {o0 : Nat} {x1 : Int32} {w2 : Option Value} {w3 : Option Value} {w4 : Option Value} {w5 : Option Value} {Z : aj_Z} {I : aj_I} {G : aj_G} {C : Nat × Nat} (h0 : J 100 [some (.ref o0), some (.int x1), w2, w3, w4, w5] [.int 0] Z I G C) : J 99 [some (.ref o0), some (.int x1), w2, w3, w4, w5] [] Z I G C := by
  refine s_iconst_0 hJ d_66_99 ?_
  exact h0
set_option maxRecDepth 4000 in
theorem b_66_100 {mc ms : Nat} {X : Option (Nat × (Nat → Int32))} {T : aj_Tt} {Q : aj_Q} {J : aj_J} (hJ : aj_Cl 1 c_66 (none) false mc ms X T Q J) {o0 : Nat} {x1 : Int32} {w2 : Option Value} {w3 : Option Value} {w4 : Option Value} {w5 : Option Value} {s0 : Int32} {q0 : Nat} {nk1 : Nat} {Z : aj_Z} {I : aj_I} {G : aj_G} {C : Nat × Nat} (h0 : s0 = 0 → J 121 [some (.ref o0), some (.int x1), some (.int s0), some (.long 0), none, some (.int (-1))] [] Z I G C) (k0 : Z.2.1 o0 = some (.inl 1)) (r0 : Z.2.2 o0 26 = .ref q0) (k1 : Z.2.1 q0 = some (.inr (0, nk1))) (h1 : ¬ s0 = 0 → vp_in x1 nk1) (h2 : ¬ s0 = 0 → J 121 [some (.ref o0), some (.int x1), some (.int s0), some (.long 0), none, some (.int ((I q0 (Int32.toNatClampNeg x1)) - 1))] [] Z I G C) : J 100 [some (.ref o0), some (.int x1), w2, w3, w4, w5] [.int s0] Z I G C := by
  refine s_istore_n hJ d_66_100 (Nat.le_of_ble_eq_true rfl) ?_
  refine s_lconst_0 hJ d_66_101 ?_
  refine s_lstore_n hJ d_66_102 (Nat.le_of_ble_eq_true rfl) ?_
  refine s_iload_n hJ d_66_103 rfl ?_
  refine s_if_eq (tgt := 118) hJ d_66_104 rfl (fun c0 => ?_) (fun c0 => ?_)
  · skip
    refine s_iconst_m1 hJ d_66_118 ?_
    refine s_istore hJ d_66_119 (Nat.le_of_ble_eq_true rfl) ?_
    exact h0 c0
  · skip
    refine s_aload_n hJ d_66_107 rfl ?_
    refine s_getr hJ lf_1_58 rfl d_66_108 k0 r0 ?_
    refine s_iload_n hJ d_66_111 rfl ?_
    refine s_iald hJ d_66_112 k1 (h1 c0) ?_
    refine s_iconst_1 hJ d_66_113 ?_
    refine s_isub hJ d_66_114 ?_
    refine s_goto (tgt := 119) hJ d_66_115 rfl ?_
    refine s_istore hJ d_66_119 (Nat.le_of_ble_eq_true rfl) ?_
    exact h2 c0
set_option maxRecDepth 4000 in
theorem b_66_121 {mc ms : Nat} {X : Option (Nat × (Nat → Int32))} {T : aj_Tt} {Q : aj_Q} {J : aj_J} (hJ : aj_Cl 1 c_66 (none) false mc ms X T Q J) {o0 : Nat} {x1 : Int32} {w2 : Option Value} {x3 : Int64} {w4 : Option Value} {x5 : Int32} {q0 : Nat} {nk1 : Nat} {q1 : Nat} {q2 : Nat} {nk3 : Nat} {nk5 : Nat} {Z : aj_Z} {I : aj_I} {G : aj_G} {C : Nat × Nat} (k0 : Z.2.1 o0 = some (.inl 1)) (r0 : Z.2.2 o0 4 = .ref q0) (k1 : Z.2.1 q0 = some (.inr (1, nk1))) (h0 : x5 < 0 → vp_in x1 nk1) (h1 : x5 < 0 → J 38 [some (.ref o0), some (.int (x1 + 1)), w2, some (.long x3), w4, some (.int x5)] [] Z I (aj_u2 G q0 (Int32.toNatClampNeg x1) x3) C) (r1 : Z.2.2 o0 6 = .ref q1) (r2 : Z.2.2 o0 27 = .ref q2) (k3 : Z.2.1 q2 = some (.inr (1, nk3))) (h2 : ¬ x5 < 0 → vp_in x1 nk3) (k5 : Z.2.1 q1 = some (.inr (0, nk5))) (h3 : ¬ x5 < 0 → vp_in ((Int64.toInt32 (G q2 (Int32.toNatClampNeg x1))) + x5) nk5) (h4 : ¬ x5 < 0 → J 121 [some (.ref o0), some (.int x1), (aj_clr w2), some (.long ((x3 <<< (Int32.toInt64 8 &&& 63)) ||| (Int32.toInt64 (I q1 (Int32.toNatClampNeg ((Int64.toInt32 (G q2 (Int32.toNatClampNeg x1))) + x5)))))), none, some (.int (x5 + (-1)))] [] Z I G C) : J 121 [some (.ref o0), some (.int x1), w2, some (.long x3), w4, some (.int x5)] [] Z I G C := by
  refine s_iload hJ d_66_121 rfl ?_
  refine s_if_lt (tgt := 154) hJ d_66_123 rfl (fun c0 => ?_) (fun c0 => ?_)
  · skip
    refine s_aload_n hJ d_66_154 rfl ?_
    refine s_getr hJ lf_1_19 rfl d_66_155 k0 r0 ?_
    refine s_iload_n hJ d_66_158 rfl ?_
    refine s_lload_n hJ d_66_159 rfl ?_
    refine s_last hJ d_66_160 k1 (h0 c0) ?_
    refine s_iinc (v := 1) hJ d_66_161 rfl (by decide) ?_
    refine s_goto (tgt := 38) hJ d_66_164 rfl ?_
    exact h1 c0
  · skip
    refine s_lload_n hJ d_66_126 rfl ?_
    refine s_bipush (v := 8) hJ d_66_127 (by decide) ?_
    refine s_lshl hJ d_66_129 ?_
    refine s_aload_n hJ d_66_130 rfl ?_
    refine s_getr hJ lf_1_23 rfl d_66_131 k0 r1 ?_
    refine s_aload_n hJ d_66_134 rfl ?_
    refine s_getr hJ lf_1_61 rfl d_66_135 k0 r2 ?_
    refine s_iload_n hJ d_66_138 rfl ?_
    refine s_lald hJ d_66_139 k3 (h2 c0) ?_
    refine s_l2i hJ d_66_140 ?_
    refine s_iload hJ d_66_141 rfl ?_
    refine s_iadd hJ d_66_143 ?_
    refine s_iald hJ d_66_144 k5 (h3 c0) ?_
    refine s_i2l hJ d_66_145 ?_
    refine s_lor hJ d_66_146 ?_
    refine s_lstore_n hJ d_66_147 (Nat.le_of_ble_eq_true rfl) ?_
    refine s_iinc (v := (-1)) hJ d_66_148 rfl (by decide) ?_
    refine s_goto (tgt := 121) hJ d_66_151 rfl ?_
    exact h4 c0
-- ReelOfBoxesModel.read()I : method 67
theorem d_67_0 : decode c_67 0 = .ok (.aload_n 0, 1) := by decide +kernel
theorem d_67_1 : decode c_67 1 = .ok (.invokevirtual 244, 3) := by decide +kernel
theorem d_67_4 : decode c_67 4 = .ok (.istore_n 1, 1) := by decide +kernel
theorem d_67_5 : decode c_67 5 = .ok (.iload_n 1, 1) := by decide +kernel
theorem d_67_6 : decode c_67 6 = .ok (.ifCond .ne (8), 3) := by decide +kernel
theorem d_67_9 : decode c_67 9 = .ok (.aload_n 0, 1) := by decide +kernel
theorem d_67_10 : decode c_67 10 = .ok (.invokevirtual 247, 3) := by decide +kernel
theorem d_67_13 : decode c_67 13 = .ok (.istore_n 1, 1) := by decide +kernel
theorem d_67_14 : decode c_67 14 = .ok (.iload_n 1, 1) := by decide +kernel
theorem d_67_15 : decode c_67 15 = .ok (.ifCond .ne (8), 3) := by decide +kernel
theorem d_67_18 : decode c_67 18 = .ok (.aload_n 0, 1) := by decide +kernel
theorem d_67_19 : decode c_67 19 = .ok (.invokevirtual 250, 3) := by decide +kernel
theorem d_67_22 : decode c_67 22 = .ok (.istore_n 1, 1) := by decide +kernel
theorem d_67_23 : decode c_67 23 = .ok (.iload_n 1, 1) := by decide +kernel
theorem d_67_24 : decode c_67 24 = .ok (.ifCond .ne (12), 3) := by decide +kernel
theorem d_67_27 : decode c_67 27 = .ok (.aload_n 0, 1) := by decide +kernel
theorem d_67_28 : decode c_67 28 = .ok (.invokevirtual 253, 3) := by decide +kernel
theorem d_67_31 : decode c_67 31 = .ok (.aload_n 0, 1) := by decide +kernel
theorem d_67_32 : decode c_67 32 = .ok (.iconst (-1), 1) := by decide +kernel
theorem d_67_33 : decode c_67 33 = .ok (.putfield 26, 3) := by decide +kernel
theorem d_67_36 : decode c_67 36 = .ok (.iload_n 1, 1) := by decide +kernel
theorem d_67_37 : decode c_67 37 = .ok (.ireturn, 1) := by decide +kernel
set_option maxRecDepth 4000 in
theorem b_67_0 {mc ms : Nat} {X : Option (Nat × (Nat → Int32))} {T : aj_Tt} {Q : aj_Q} {J : aj_J} (hJ : aj_Cl 1 c_67 (some .int) false mc ms X T Q J) {o0 : Nat} {Z : aj_Z} {I : aj_I} {G : aj_G} {C : Nat × Nat} (k0 : Z.2.1 o0 = some (.inl 1)) (h0 : T 0 0 49 [.ref o0] Z I G (fun r Z1 I1 G1 => J 4 [some (.ref o0), none] (r.toList ++ []) Z1 I1 G1 C)) : J 0 [some (.ref o0), none] [] Z I G C := by
  refine s_aload_n hJ d_67_0 rfl ?_
  exact s_V0 hJ lm_1_244 d_67_1 (Nat.le_of_ble_eq_true rfl) k0 (h0)
set_option maxRecDepth 4000 in
theorem b_67_4 {mc ms : Nat} {X : Option (Nat × (Nat → Int32))} {T : aj_Tt} {Q : aj_Q} {J : aj_J} (hJ : aj_Cl 1 c_67 (some .int) false mc ms X T Q J) {o0 : Nat} {w1 : Option Value} {s0 : Int32} {Z : aj_Z} {I : aj_I} {G : aj_G} {C : Nat × Nat} (h0 : ¬ s0 = 0 → J 14 [some (.ref o0), some (.int s0)] [] Z I G C) (k0 : Z.2.1 o0 = some (.inl 1)) (h1 : s0 = 0 → T 0 0 59 [.ref o0] Z I G (fun r Z1 I1 G1 => J 13 [some (.ref o0), some (.int s0)] (r.toList ++ []) Z1 I1 G1 C)) : J 4 [some (.ref o0), w1] [.int s0] Z I G C := by
  refine s_istore_n hJ d_67_4 (Nat.le_of_ble_eq_true rfl) ?_
  refine s_iload_n hJ d_67_5 rfl ?_
  refine s_if_ne (tgt := 14) hJ d_67_6 rfl (fun c0 => ?_) (fun c0 => ?_)
  · skip
    exact h0 c0
  · skip
    refine s_aload_n hJ d_67_9 rfl ?_
    exact s_V0 hJ lm_1_247 d_67_10 (Nat.le_of_ble_eq_true rfl) k0 (h1 c0)
set_option maxRecDepth 4000 in
theorem b_67_13 {mc ms : Nat} {X : Option (Nat × (Nat → Int32))} {T : aj_Tt} {Q : aj_Q} {J : aj_J} (hJ : aj_Cl 1 c_67 (some .int) false mc ms X T Q J) {o0 : Nat} {w1 : Option Value} {s0 : Int32} {Z : aj_Z} {I : aj_I} {G : aj_G} {C : Nat × Nat} (h0 : J 14 [some (.ref o0), some (.int s0)] [] Z I G C) : J 13 [some (.ref o0), w1] [.int s0] Z I G C := by
  refine s_istore_n hJ d_67_13 (Nat.le_of_ble_eq_true rfl) ?_
  exact h0
set_option maxRecDepth 4000 in
theorem b_67_14 {mc ms : Nat} {X : Option (Nat × (Nat → Int32))} {T : aj_Tt} {Q : aj_Q} {J : aj_J} (hJ : aj_Cl 1 c_67 (some .int) false mc ms X T Q J) {o0 : Nat} {x1 : Int32} {Z : aj_Z} {I : aj_I} {G : aj_G} {C : Nat × Nat} (h0 : ¬ x1 = 0 → ¬ x1 = 0 → Q (some (.int x1)) Z I G) (k0 : Z.2.1 o0 = some (.inl 1)) (h1 : ¬ x1 = 0 → x1 = 0 → T 0 0 66 [.ref o0] Z I G (fun r Z1 I1 G1 => J 31 [some (.ref o0), some (.int x1)] (r.toList ++ []) Z1 I1 G1 C)) (h2 : x1 = 0 → T 0 0 65 [.ref o0] Z I G (fun r Z1 I1 G1 => J 22 [some (.ref o0), some (.int x1)] (r.toList ++ []) Z1 I1 G1 C)) : J 14 [some (.ref o0), some (.int x1)] [] Z I G C := by
  refine s_iload_n hJ d_67_14 rfl ?_
  refine s_if_ne (tgt := 23) hJ d_67_15 rfl (fun c0 => ?_) (fun c0 => ?_)
  · skip
    refine s_iload_n hJ d_67_23 rfl ?_
    refine s_if_ne (tgt := 36) hJ d_67_24 rfl (fun c1 => ?_) (fun c1 => ?_)
    · skip
      refine s_iload_n hJ d_67_36 rfl ?_
      exact s_iret hJ d_67_37 rfl rfl (h0 c0 c1)
    · skip
      refine s_aload_n hJ d_67_27 rfl ?_
      exact s_V0 hJ lm_1_253 d_67_28 (Nat.le_of_ble_eq_true rfl) k0 (h1 c0 c1)
  · skip
    refine s_aload_n hJ d_67_18 rfl ?_
    exact s_V0 hJ lm_1_250 d_67_19 (Nat.le_of_ble_eq_true rfl) k0 (h2 c0)
set_option maxRecDepth 4000 in
theorem b_67_22 {mc ms : Nat} {X : Option (Nat × (Nat → Int32))} {T : aj_Tt} {Q : aj_Q} {J : aj_J} (hJ : aj_Cl 1 c_67 (some .int) false mc ms X T Q J) {o0 : Nat} {w1 : Option Value} {s0 : Int32} {Z : aj_Z} {I : aj_I} {G : aj_G} {C : Nat × Nat} (h0 : ¬ s0 = 0 → Q (some (.int s0)) Z I G) (k0 : Z.2.1 o0 = some (.inl 1)) (h1 : s0 = 0 → T 0 0 66 [.ref o0] Z I G (fun r Z1 I1 G1 => J 31 [some (.ref o0), some (.int s0)] (r.toList ++ []) Z1 I1 G1 C)) : J 22 [some (.ref o0), w1] [.int s0] Z I G C := by
  refine s_istore_n hJ d_67_22 (Nat.le_of_ble_eq_true rfl) ?_
  refine s_iload_n hJ d_67_23 rfl ?_
  refine s_if_ne (tgt := 36) hJ d_67_24 rfl (fun c0 => ?_) (fun c0 => ?_)
  · skip
    refine s_iload_n hJ d_67_36 rfl ?_
    exact s_iret hJ d_67_37 rfl rfl (h0 c0)
  · skip
    refine s_aload_n hJ d_67_27 rfl ?_
    exact s_V0 hJ lm_1_253 d_67_28 (Nat.le_of_ble_eq_true rfl) k0 (h1 c0)
set_option maxRecDepth 4000 in
theorem b_67_31 {mc ms : Nat} {X : Option (Nat × (Nat → Int32))} {T : aj_Tt} {Q : aj_Q} {J : aj_J} (hJ : aj_Cl 1 c_67 (some .int) false mc ms X T Q J) {o0 : Nat} {x1 : Int32} {Z : aj_Z} {I : aj_I} {G : aj_G} {C : Nat × Nat} (k0 : Z.2.1 o0 = some (.inl 1)) (h0 : Q (some (.int x1)) Z (aj_u2 I o0 7 (-1)) G) : J 31 [some (.ref o0), some (.int x1)] [] Z I G C := by
  refine s_aload_n hJ d_67_31 rfl ?_
  refine s_iconst_m1 hJ d_67_32 ?_
  refine s_puti hJ lf_1_26 rfl d_67_33 k0 ?_
  refine s_iload_n hJ d_67_36 rfl ?_
  exact s_iret hJ d_67_37 rfl rfl (h0)
-- ReelOfBoxesModel.place()I : method 68
theorem d_68_0 : decode c_68 0 = .ok (.aload_n 0, 1) := by decide +kernel
theorem d_68_1 : decode c_68 1 = .ok (.getfield 26, 3) := by decide +kernel
theorem d_68_4 : decode c_68 4 = .ok (.ireturn, 1) := by decide +kernel
set_option maxRecDepth 4000 in
theorem b_68_0 {mc ms : Nat} {X : Option (Nat × (Nat → Int32))} {T : aj_Tt} {Q : aj_Q} {J : aj_J} (hJ : aj_Cl 1 c_68 (some .int) false mc ms X T Q J) {o0 : Nat} {Z : aj_Z} {I : aj_I} {G : aj_G} {C : Nat × Nat} (k0 : Z.2.1 o0 = some (.inl 1)) (h0 : Q (some (.int (I o0 7))) Z I G) : J 0 [some (.ref o0)] [] Z I G C := by
  refine s_aload_n hJ d_68_0 rfl ?_
  refine s_geti hJ lf_1_26 rfl d_68_1 k0 ?_
  exact s_iret hJ d_68_4 rfl rfl (h0)
-- ReelOfBoxesModel.tracks()I : method 69
theorem d_69_0 : decode c_69 0 = .ok (.aload_n 0, 1) := by decide +kernel
theorem d_69_1 : decode c_69 1 = .ok (.getfield 64, 3) := by decide +kernel
theorem d_69_4 : decode c_69 4 = .ok (.ireturn, 1) := by decide +kernel
set_option maxRecDepth 4000 in
theorem b_69_0 {mc ms : Nat} {X : Option (Nat × (Nat → Int32))} {T : aj_Tt} {Q : aj_Q} {J : aj_J} (hJ : aj_Cl 1 c_69 (some .int) false mc ms X T Q J) {o0 : Nat} {Z : aj_Z} {I : aj_I} {G : aj_G} {C : Nat × Nat} (k0 : Z.2.1 o0 = some (.inl 1)) (h0 : Q (some (.int (I o0 0))) Z I G) : J 0 [some (.ref o0)] [] Z I G C := by
  refine s_aload_n hJ d_69_0 rfl ?_
  refine s_geti hJ lf_1_64 rfl d_69_1 k0 ?_
  exact s_iret hJ d_69_4 rfl rfl (h0)
-- ReelOfBoxesModel.samples(I)I : method 70
theorem d_70_0 : decode c_70 0 = .ok (.aload_n 0, 1) := by decide +kernel
theorem d_70_1 : decode c_70 1 = .ok (.iload_n 1, 1) := by decide +kernel
theorem d_70_2 : decode c_70 2 = .ok (.invokevirtual 67, 3) := by decide +kernel
theorem d_70_5 : decode c_70 5 = .ok (.ifCond .eq (12), 3) := by decide +kernel
theorem d_70_8 : decode c_70 8 = .ok (.aload_n 0, 1) := by decide +kernel
theorem d_70_9 : decode c_70 9 = .ok (.getfield 7, 3) := by decide +kernel
theorem d_70_12 : decode c_70 12 = .ok (.iload_n 1, 1) := by decide +kernel
theorem d_70_13 : decode c_70 13 = .ok (.iaload, 1) := by decide +kernel
theorem d_70_14 : decode c_70 14 = .ok (.goto (4), 3) := by decide +kernel
theorem d_70_17 : decode c_70 17 = .ok (.iconst (-1), 1) := by decide +kernel
theorem d_70_18 : decode c_70 18 = .ok (.ireturn, 1) := by decide +kernel
set_option maxRecDepth 4000 in
theorem b_70_0 {mc ms : Nat} {X : Option (Nat × (Nat → Int32))} {T : aj_Tt} {Q : aj_Q} {J : aj_J} (hJ : aj_Cl 1 c_70 (some .int) false mc ms X T Q J) {o0 : Nat} {x1 : Int32} {Z : aj_Z} {I : aj_I} {G : aj_G} {C : Nat × Nat} (k0 : Z.2.1 o0 = some (.inl 1)) (h0 : T 0 0 21 [.ref o0, .int x1] Z I G (fun r Z1 I1 G1 => J 5 [some (.ref o0), some (.int x1)] (r.toList ++ []) Z1 I1 G1 C)) : J 0 [some (.ref o0), some (.int x1)] [] Z I G C := by
  refine s_aload_n hJ d_70_0 rfl ?_
  refine s_iload_n hJ d_70_1 rfl ?_
  exact s_V1 hJ lm_1_67 d_70_2 (Nat.le_of_ble_eq_true rfl) k0 (h0)
set_option maxRecDepth 4000 in
theorem b_70_5 {mc ms : Nat} {X : Option (Nat × (Nat → Int32))} {T : aj_Tt} {Q : aj_Q} {J : aj_J} (hJ : aj_Cl 1 c_70 (some .int) false mc ms X T Q J) {o0 : Nat} {x1 : Int32} {s0 : Int32} {q0 : Nat} {nk1 : Nat} {Z : aj_Z} {I : aj_I} {G : aj_G} {C : Nat × Nat} (h0 : s0 = 0 → Q (some (.int (-1))) Z I G) (k0 : Z.2.1 o0 = some (.inl 1)) (r0 : Z.2.2 o0 1 = .ref q0) (k1 : Z.2.1 q0 = some (.inr (0, nk1))) (h1 : ¬ s0 = 0 → vp_in x1 nk1) (h2 : ¬ s0 = 0 → Q (some (.int (I q0 (Int32.toNatClampNeg x1)))) Z I G) : J 5 [some (.ref o0), some (.int x1)] [.int s0] Z I G C := by
  refine s_if_eq (tgt := 17) hJ d_70_5 rfl (fun c0 => ?_) (fun c0 => ?_)
  · skip
    refine s_iconst_m1 hJ d_70_17 ?_
    exact s_iret hJ d_70_18 rfl rfl (h0 c0)
  · skip
    refine s_aload_n hJ d_70_8 rfl ?_
    refine s_getr hJ lf_1_7 rfl d_70_9 k0 r0 ?_
    refine s_iload_n hJ d_70_12 rfl ?_
    refine s_iald hJ d_70_13 k1 (h1 c0) ?_
    refine s_goto (tgt := 18) hJ d_70_14 rfl ?_
    exact s_iret hJ d_70_18 rfl rfl (h2 c0)
-- ReelOfBoxesModel.size(II)I : method 71
theorem d_71_0 : decode c_71 0 = .ok (.aload_n 0, 1) := by decide +kernel
theorem d_71_1 : decode c_71 1 = .ok (.iload_n 1, 1) := by decide +kernel
theorem d_71_2 : decode c_71 2 = .ok (.iload_n 2, 1) := by decide +kernel
theorem d_71_3 : decode c_71 3 = .ok (.invokevirtual 256, 3) := by decide +kernel
theorem d_71_6 : decode c_71 6 = .ok (.ifCond .eq (17), 3) := by decide +kernel
theorem d_71_9 : decode c_71 9 = .ok (.aload_n 0, 1) := by decide +kernel
theorem d_71_10 : decode c_71 10 = .ok (.getfield 16, 3) := by decide +kernel
theorem d_71_13 : decode c_71 13 = .ok (.bipush (16), 2) := by decide +kernel
theorem d_71_15 : decode c_71 15 = .ok (.iload_n 1, 1) := by decide +kernel
theorem d_71_16 : decode c_71 16 = .ok (.imul, 1) := by decide +kernel
theorem d_71_17 : decode c_71 17 = .ok (.iload_n 2, 1) := by decide +kernel
theorem d_71_18 : decode c_71 18 = .ok (.iadd, 1) := by decide +kernel
theorem d_71_19 : decode c_71 19 = .ok (.iaload, 1) := by decide +kernel
theorem d_71_20 : decode c_71 20 = .ok (.goto (4), 3) := by decide +kernel
theorem d_71_23 : decode c_71 23 = .ok (.iconst (-1), 1) := by decide +kernel
theorem d_71_24 : decode c_71 24 = .ok (.ireturn, 1) := by decide +kernel
set_option maxRecDepth 4000 in
theorem b_71_0 {mc ms : Nat} {X : Option (Nat × (Nat → Int32))} {T : aj_Tt} {Q : aj_Q} {J : aj_J} (hJ : aj_Cl 1 c_71 (some .int) false mc ms X T Q J) {o0 : Nat} {x1 : Int32} {x2 : Int32} {Z : aj_Z} {I : aj_I} {G : aj_G} {C : Nat × Nat} (k0 : Z.2.1 o0 = some (.inl 1)) (h0 : T 0 0 22 [.ref o0, .int x1, .int x2] Z I G (fun r Z1 I1 G1 => J 6 [some (.ref o0), some (.int x1), some (.int x2)] (r.toList ++ []) Z1 I1 G1 C)) : J 0 [some (.ref o0), some (.int x1), some (.int x2)] [] Z I G C := by
  refine s_aload_n hJ d_71_0 rfl ?_
  refine s_iload_n hJ d_71_1 rfl ?_
  refine s_iload_n hJ d_71_2 rfl ?_
  exact s_V2 hJ lm_1_256 d_71_3 (Nat.le_of_ble_eq_true rfl) k0 (h0)
set_option maxRecDepth 4000 in
theorem b_71_6 {mc ms : Nat} {X : Option (Nat × (Nat → Int32))} {T : aj_Tt} {Q : aj_Q} {J : aj_J} (hJ : aj_Cl 1 c_71 (some .int) false mc ms X T Q J) {o0 : Nat} {x1 : Int32} {x2 : Int32} {s0 : Int32} {q0 : Nat} {nk1 : Nat} {Z : aj_Z} {I : aj_I} {G : aj_G} {C : Nat × Nat} (h0 : s0 = 0 → Q (some (.int (-1))) Z I G) (k0 : Z.2.1 o0 = some (.inl 1)) (r0 : Z.2.2 o0 3 = .ref q0) (k1 : Z.2.1 q0 = some (.inr (0, nk1))) (h1 : ¬ s0 = 0 → vp_in ((16 * x1) + x2) nk1) (h2 : ¬ s0 = 0 → Q (some (.int (I q0 (Int32.toNatClampNeg ((16 * x1) + x2))))) Z I G) : J 6 [some (.ref o0), some (.int x1), some (.int x2)] [.int s0] Z I G C := by
  refine s_if_eq (tgt := 23) hJ d_71_6 rfl (fun c0 => ?_) (fun c0 => ?_)
  · skip
    refine s_iconst_m1 hJ d_71_23 ?_
    exact s_iret hJ d_71_24 rfl rfl (h0 c0)
  · skip
    refine s_aload_n hJ d_71_9 rfl ?_
    refine s_getr hJ lf_1_16 rfl d_71_10 k0 r0 ?_
    refine s_bipush (v := 16) hJ d_71_13 (by decide) ?_
    refine s_iload_n hJ d_71_15 rfl ?_
    refine s_imul hJ d_71_16 ?_
    refine s_iload_n hJ d_71_17 rfl ?_
    refine s_iadd hJ d_71_18 ?_
    refine s_iald hJ d_71_19 k1 (h1 c0) ?_
    refine s_goto (tgt := 24) hJ d_71_20 rfl ?_
    exact s_iret hJ d_71_24 rfl rfl (h2 c0)
-- ReelOfBoxesModel.time(II)J : method 72
theorem d_72_0 : decode c_72 0 = .ok (.aload_n 0, 1) := by decide +kernel
theorem d_72_1 : decode c_72 1 = .ok (.iload_n 1, 1) := by decide +kernel
theorem d_72_2 : decode c_72 2 = .ok (.invokevirtual 67, 3) := by decide +kernel
theorem d_72_5 : decode c_72 5 = .ok (.ifCond .eq (17), 3) := by decide +kernel
theorem d_72_8 : decode c_72 8 = .ok (.iload_n 2, 1) := by decide +kernel
theorem d_72_9 : decode c_72 9 = .ok (.ifCond .lt (13), 3) := by decide +kernel
theorem d_72_12 : decode c_72 12 = .ok (.iload_n 2, 1) := by decide +kernel
theorem d_72_13 : decode c_72 13 = .ok (.aload_n 0, 1) := by decide +kernel
theorem d_72_14 : decode c_72 14 = .ok (.getfield 7, 3) := by decide +kernel
theorem d_72_17 : decode c_72 17 = .ok (.iload_n 1, 1) := by decide +kernel
theorem d_72_18 : decode c_72 18 = .ok (.iaload, 1) := by decide +kernel
theorem d_72_19 : decode c_72 19 = .ok (.if_icmp .le (7), 3) := by decide +kernel
theorem d_72_22 : decode c_72 22 = .ok (.ldc2_w 259, 3) := by decide +kernel
theorem d_72_25 : decode c_72 25 = .ok (.lreturn, 1) := by decide +kernel
theorem d_72_26 : decode c_72 26 = .ok (.lconst 0, 1) := by decide +kernel
theorem d_72_27 : decode c_72 27 = .ok (.lstore_n 3, 1) := by decide +kernel
theorem d_72_28 : decode c_72 28 = .ok (.iconst (0), 1) := by decide +kernel
theorem d_72_29 : decode c_72 29 = .ok (.istore 5, 2) := by decide +kernel
theorem d_72_31 : decode c_72 31 = .ok (.iload 5, 2) := by decide +kernel
theorem d_72_33 : decode c_72 33 = .ok (.iload_n 2, 1) := by decide +kernel
theorem d_72_34 : decode c_72 34 = .ok (.if_icmp .ge (25), 3) := by decide +kernel
theorem d_72_37 : decode c_72 37 = .ok (.lload_n 3, 1) := by decide +kernel
theorem d_72_38 : decode c_72 38 = .ok (.aload_n 0, 1) := by decide +kernel
theorem d_72_39 : decode c_72 39 = .ok (.getfield 13, 3) := by decide +kernel
theorem d_72_42 : decode c_72 42 = .ok (.bipush (16), 2) := by decide +kernel
theorem d_72_44 : decode c_72 44 = .ok (.iload_n 1, 1) := by decide +kernel
theorem d_72_45 : decode c_72 45 = .ok (.imul, 1) := by decide +kernel
theorem d_72_46 : decode c_72 46 = .ok (.iload 5, 2) := by decide +kernel
theorem d_72_48 : decode c_72 48 = .ok (.iadd, 1) := by decide +kernel
theorem d_72_49 : decode c_72 49 = .ok (.iaload, 1) := by decide +kernel
theorem d_72_50 : decode c_72 50 = .ok (.i2l, 1) := by decide +kernel
theorem d_72_51 : decode c_72 51 = .ok (.ladd, 1) := by decide +kernel
theorem d_72_52 : decode c_72 52 = .ok (.lstore_n 3, 1) := by decide +kernel
theorem d_72_53 : decode c_72 53 = .ok (.iinc 5 (1), 3) := by decide +kernel
theorem d_72_56 : decode c_72 56 = .ok (.goto (-25), 3) := by decide +kernel
theorem d_72_59 : decode c_72 59 = .ok (.lload_n 3, 1) := by decide +kernel
theorem d_72_60 : decode c_72 60 = .ok (.lreturn, 1) := by decide +kernel
set_option maxRecDepth 4000 in
theorem b_72_0 {mc ms : Nat} {X : Option (Nat × (Nat → Int32))} {T : aj_Tt} {Q : aj_Q} {J : aj_J} (hJ : aj_Cl 1 c_72 (some .long) false mc ms X T Q J) {o0 : Nat} {x1 : Int32} {x2 : Int32} {Z : aj_Z} {I : aj_I} {G : aj_G} {C : Nat × Nat} (k0 : Z.2.1 o0 = some (.inl 1)) (h0 : T 0 0 21 [.ref o0, .int x1] Z I G (fun r Z1 I1 G1 => J 5 [some (.ref o0), some (.int x1), some (.int x2), none, none, none] (r.toList ++ []) Z1 I1 G1 C)) : J 0 [some (.ref o0), some (.int x1), some (.int x2), none, none, none] [] Z I G C := by
  refine s_aload_n hJ d_72_0 rfl ?_
  refine s_iload_n hJ d_72_1 rfl ?_
  exact s_V1 hJ lm_1_67 d_72_2 (Nat.le_of_ble_eq_true rfl) k0 (h0)
set_option maxRecDepth 4000 in
theorem b_72_5 {mc ms : Nat} {X : Option (Nat × (Nat → Int32))} {T : aj_Tt} {Q : aj_Q} {J : aj_J} (hJ : aj_Cl 1 c_72 (some .long) false mc ms X T Q J) {o0 : Nat} {x1 : Int32} {x2 : Int32} {w3 : Option Value} {w4 : Option Value} {w5 : Option Value} {s0 : Int32} {q0 : Nat} {nk1 : Nat} {Z : aj_Z} {I : aj_I} {G : aj_G} {C : Nat × Nat} (h0 : s0 = 0 → Q (some (.long (-1))) Z I G) (h1 : ¬ s0 = 0 → x2 < 0 → Q (some (.long (-1))) Z I G) (k0 : Z.2.1 o0 = some (.inl 1)) (r0 : Z.2.2 o0 1 = .ref q0) (k1 : Z.2.1 q0 = some (.inr (0, nk1))) (h2 : ¬ s0 = 0 → ¬ x2 < 0 → vp_in x1 nk1) (h3 : ¬ s0 = 0 → ¬ x2 < 0 → x2 ≤ (I q0 (Int32.toNatClampNeg x1)) → J 31 [some (.ref o0), some (.int x1), some (.int x2), some (.long 0), none, some (.int 0)] [] Z I G C) (h4 : ¬ s0 = 0 → ¬ x2 < 0 → ¬ x2 ≤ (I q0 (Int32.toNatClampNeg x1)) → Q (some (.long (-1))) Z I G) : J 5 [some (.ref o0), some (.int x1), some (.int x2), w3, w4, w5] [.int s0] Z I G C := by
  refine s_if_eq (tgt := 22) hJ d_72_5 rfl (fun c0 => ?_) (fun c0 => ?_)
  · skip
    refine s_ldc2 hJ ll_1_259 d_72_22 ?_
    exact s_lret hJ d_72_25 rfl (h0 c0)
  · skip
    refine s_iload_n hJ d_72_8 rfl ?_
    refine s_if_lt (tgt := 22) hJ d_72_9 rfl (fun c1 => ?_) (fun c1 => ?_)
    · skip
      refine s_ldc2 hJ ll_1_259 d_72_22 ?_
      exact s_lret hJ d_72_25 rfl (h1 c0 c1)
    · skip
      refine s_iload_n hJ d_72_12 rfl ?_
      refine s_aload_n hJ d_72_13 rfl ?_
      refine s_getr hJ lf_1_7 rfl d_72_14 k0 r0 ?_
      refine s_iload_n hJ d_72_17 rfl ?_
      refine s_iald hJ d_72_18 k1 (h2 c0 c1) ?_
      refine s_icmp_le (tgt := 26) hJ d_72_19 rfl (fun c2 => ?_) (fun c2 => ?_)
      · skip
        refine s_lconst_0 hJ d_72_26 ?_
        refine s_lstore_n hJ d_72_27 (Nat.le_of_ble_eq_true rfl) ?_
        refine s_iconst_0 hJ d_72_28 ?_
        refine s_istore hJ d_72_29 (Nat.le_of_ble_eq_true rfl) ?_
        exact h3 c0 c1 c2
      · skip
        refine s_ldc2 hJ ll_1_259 d_72_22 ?_
        exact s_lret hJ d_72_25 rfl (h4 c0 c1 c2)
set_option maxRecDepth 4000 in
theorem b_72_31 {mc ms : Nat} {X : Option (Nat × (Nat → Int32))} {T : aj_Tt} {Q : aj_Q} {J : aj_J} (hJ : aj_Cl 1 c_72 (some .long) false mc ms X T Q J) {o0 : Nat} {x1 : Int32} {x2 : Int32} {x3 : Int64} {w4 : Option Value} {x5 : Int32} {q0 : Nat} {nk1 : Nat} {Z : aj_Z} {I : aj_I} {G : aj_G} {C : Nat × Nat} (h0 : x2 ≤ x5 → Q (some (.long x3)) Z I G) (k0 : Z.2.1 o0 = some (.inl 1)) (r0 : Z.2.2 o0 2 = .ref q0) (k1 : Z.2.1 q0 = some (.inr (0, nk1))) (h1 : ¬ x2 ≤ x5 → vp_in ((16 * x1) + x5) nk1) (h2 : ¬ x2 ≤ x5 → J 31 [some (.ref o0), some (.int x1), some (.int x2), some (.long (x3 + (Int32.toInt64 (I q0 (Int32.toNatClampNeg ((16 * x1) + x5)))))), none, some (.int (x5 + 1))] [] Z I G C) : J 31 [some (.ref o0), some (.int x1), some (.int x2), some (.long x3), w4, some (.int x5)] [] Z I G C := by
  refine s_iload hJ d_72_31 rfl ?_
  refine s_iload_n hJ d_72_33 rfl ?_
  refine s_icmp_ge (tgt := 59) hJ d_72_34 rfl (fun c0 => ?_) (fun c0 => ?_)
  · skip
    refine s_lload_n hJ d_72_59 rfl ?_
    exact s_lret hJ d_72_60 rfl (h0 c0)
  · skip
    refine s_lload_n hJ d_72_37 rfl ?_
    refine s_aload_n hJ d_72_38 rfl ?_
    refine s_getr hJ lf_1_13 rfl d_72_39 k0 r0 ?_
    refine s_bipush (v := 16) hJ d_72_42 (by decide) ?_
    refine s_iload_n hJ d_72_44 rfl ?_
    refine s_imul hJ d_72_45 ?_
    refine s_iload hJ d_72_46 rfl ?_
    refine s_iadd hJ d_72_48 ?_
    refine s_iald hJ d_72_49 k1 (h1 c0) ?_
    refine s_i2l hJ d_72_50 ?_
    refine s_ladd hJ d_72_51 ?_
    refine s_lstore_n hJ d_72_52 (Nat.le_of_ble_eq_true rfl) ?_
    refine s_iinc (v := 1) hJ d_72_53 rfl (by decide) ?_
    refine s_goto (tgt := 31) hJ d_72_56 rfl ?_
    exact h2 c0
-- ReelOfBoxesModel.bytes(II)J : method 73
theorem d_73_0 : decode c_73 0 = .ok (.aload_n 0, 1) := by decide +kernel
theorem d_73_1 : decode c_73 1 = .ok (.iload_n 1, 1) := by decide +kernel
theorem d_73_2 : decode c_73 2 = .ok (.iload_n 2, 1) := by decide +kernel
theorem d_73_3 : decode c_73 3 = .ok (.invokevirtual 256, 3) := by decide +kernel
theorem d_73_6 : decode c_73 6 = .ok (.ifCond .eq (17), 3) := by decide +kernel
theorem d_73_9 : decode c_73 9 = .ok (.aload_n 0, 1) := by decide +kernel
theorem d_73_10 : decode c_73 10 = .ok (.getfield 19, 3) := by decide +kernel
theorem d_73_13 : decode c_73 13 = .ok (.bipush (16), 2) := by decide +kernel
theorem d_73_15 : decode c_73 15 = .ok (.iload_n 1, 1) := by decide +kernel
theorem d_73_16 : decode c_73 16 = .ok (.imul, 1) := by decide +kernel
theorem d_73_17 : decode c_73 17 = .ok (.iload_n 2, 1) := by decide +kernel
theorem d_73_18 : decode c_73 18 = .ok (.iadd, 1) := by decide +kernel
theorem d_73_19 : decode c_73 19 = .ok (.laload, 1) := by decide +kernel
theorem d_73_20 : decode c_73 20 = .ok (.goto (4), 3) := by decide +kernel
theorem d_73_23 : decode c_73 23 = .ok (.lconst 0, 1) := by decide +kernel
theorem d_73_24 : decode c_73 24 = .ok (.lreturn, 1) := by decide +kernel
set_option maxRecDepth 4000 in
theorem b_73_0 {mc ms : Nat} {X : Option (Nat × (Nat → Int32))} {T : aj_Tt} {Q : aj_Q} {J : aj_J} (hJ : aj_Cl 1 c_73 (some .long) false mc ms X T Q J) {o0 : Nat} {x1 : Int32} {x2 : Int32} {Z : aj_Z} {I : aj_I} {G : aj_G} {C : Nat × Nat} (k0 : Z.2.1 o0 = some (.inl 1)) (h0 : T 0 0 22 [.ref o0, .int x1, .int x2] Z I G (fun r Z1 I1 G1 => J 6 [some (.ref o0), some (.int x1), some (.int x2)] (r.toList ++ []) Z1 I1 G1 C)) : J 0 [some (.ref o0), some (.int x1), some (.int x2)] [] Z I G C := by
  refine s_aload_n hJ d_73_0 rfl ?_
  refine s_iload_n hJ d_73_1 rfl ?_
  refine s_iload_n hJ d_73_2 rfl ?_
  exact s_V2 hJ lm_1_256 d_73_3 (Nat.le_of_ble_eq_true rfl) k0 (h0)
set_option maxRecDepth 4000 in
theorem b_73_6 {mc ms : Nat} {X : Option (Nat × (Nat → Int32))} {T : aj_Tt} {Q : aj_Q} {J : aj_J} (hJ : aj_Cl 1 c_73 (some .long) false mc ms X T Q J) {o0 : Nat} {x1 : Int32} {x2 : Int32} {s0 : Int32} {q0 : Nat} {nk1 : Nat} {Z : aj_Z} {I : aj_I} {G : aj_G} {C : Nat × Nat} (h0 : s0 = 0 → Q (some (.long 0)) Z I G) (k0 : Z.2.1 o0 = some (.inl 1)) (r0 : Z.2.2 o0 4 = .ref q0) (k1 : Z.2.1 q0 = some (.inr (1, nk1))) (h1 : ¬ s0 = 0 → vp_in ((16 * x1) + x2) nk1) (h2 : ¬ s0 = 0 → Q (some (.long (G q0 (Int32.toNatClampNeg ((16 * x1) + x2))))) Z I G) : J 6 [some (.ref o0), some (.int x1), some (.int x2)] [.int s0] Z I G C := by
  refine s_if_eq (tgt := 23) hJ d_73_6 rfl (fun c0 => ?_) (fun c0 => ?_)
  · skip
    refine s_lconst_0 hJ d_73_23 ?_
    exact s_lret hJ d_73_24 rfl (h0 c0)
  · skip
    refine s_aload_n hJ d_73_9 rfl ?_
    refine s_getr hJ lf_1_19 rfl d_73_10 k0 r0 ?_
    refine s_bipush (v := 16) hJ d_73_13 (by decide) ?_
    refine s_iload_n hJ d_73_15 rfl ?_
    refine s_imul hJ d_73_16 ?_
    refine s_iload_n hJ d_73_17 rfl ?_
    refine s_iadd hJ d_73_18 ?_
    refine s_lald hJ d_73_19 k1 (h1 c0) ?_
    refine s_goto (tgt := 24) hJ d_73_20 rfl ?_
    exact s_lret hJ d_73_24 rfl (h2 c0)
-- ReelOfBoxesModel.length()I : method 74
theorem d_74_0 : decode c_74 0 = .ok (.aload_n 0, 1) := by decide +kernel
theorem d_74_1 : decode c_74 1 = .ok (.getfield 71, 3) := by decide +kernel
theorem d_74_4 : decode c_74 4 = .ok (.ireturn, 1) := by decide +kernel
set_option maxRecDepth 4000 in
theorem b_74_0 {mc ms : Nat} {X : Option (Nat × (Nat → Int32))} {T : aj_Tt} {Q : aj_Q} {J : aj_J} (hJ : aj_Cl 1 c_74 (some .int) false mc ms X T Q J) {o0 : Nat} {Z : aj_Z} {I : aj_I} {G : aj_G} {C : Nat × Nat} (k0 : Z.2.1 o0 = some (.inl 1)) (h0 : Q (some (.int (I o0 5))) Z I G) : J 0 [some (.ref o0)] [] Z I G C := by
  refine s_aload_n hJ d_74_0 rfl ?_
  refine s_geti hJ lf_1_71 rfl d_74_1 k0 ?_
  exact s_iret hJ d_74_4 rfl rfl (h0)
-- ReelOfBoxesModel.isByte(I)Z : method 75
theorem d_75_0 : decode c_75 0 = .ok (.iload_n 1, 1) := by decide +kernel
theorem d_75_1 : decode c_75 1 = .ok (.ifCond .lt (15), 3) := by decide +kernel
theorem d_75_4 : decode c_75 4 = .ok (.iload_n 1, 1) := by decide +kernel
theorem d_75_5 : decode c_75 5 = .ok (.aload_n 0, 1) := by decide +kernel
theorem d_75_6 : decode c_75 6 = .ok (.getfield 71, 3) := by decide +kernel
theorem d_75_9 : decode c_75 9 = .ok (.if_icmp .ge (7), 3) := by decide +kernel
theorem d_75_12 : decode c_75 12 = .ok (.iconst (1), 1) := by decide +kernel
theorem d_75_13 : decode c_75 13 = .ok (.goto (4), 3) := by decide +kernel
theorem d_75_16 : decode c_75 16 = .ok (.iconst (0), 1) := by decide +kernel
theorem d_75_17 : decode c_75 17 = .ok (.ireturn, 1) := by decide +kernel
set_option maxRecDepth 4000 in
theorem b_75_0 {mc ms : Nat} {X : Option (Nat × (Nat → Int32))} {T : aj_Tt} {Q : aj_Q} {J : aj_J} (hJ : aj_Cl 1 c_75 (some .boolean) false mc ms X T Q J) {o0 : Nat} {x1 : Int32} {Z : aj_Z} {I : aj_I} {G : aj_G} {C : Nat × Nat} (h0 : x1 < 0 → Q (some (.int 0)) Z I G) (k0 : Z.2.1 o0 = some (.inl 1)) (h1 : ¬ x1 < 0 → (I o0 5) ≤ x1 → Q (some (.int 0)) Z I G) (h2 : ¬ x1 < 0 → ¬ (I o0 5) ≤ x1 → Q (some (.int 1)) Z I G) : J 0 [some (.ref o0), some (.int x1)] [] Z I G C := by
  refine s_iload_n hJ d_75_0 rfl ?_
  refine s_if_lt (tgt := 16) hJ d_75_1 rfl (fun c0 => ?_) (fun c0 => ?_)
  · skip
    refine s_iconst_0 hJ d_75_16 ?_
    exact s_iret hJ d_75_17 rfl rfl (h0 c0)
  · skip
    refine s_iload_n hJ d_75_4 rfl ?_
    refine s_aload_n hJ d_75_5 rfl ?_
    refine s_geti hJ lf_1_71 rfl d_75_6 k0 ?_
    refine s_icmp_ge (tgt := 16) hJ d_75_9 rfl (fun c1 => ?_) (fun c1 => ?_)
    · skip
      refine s_iconst_0 hJ d_75_16 ?_
      exact s_iret hJ d_75_17 rfl rfl (h1 c0 c1)
    · skip
      refine s_iconst_1 hJ d_75_12 ?_
      refine s_goto (tgt := 17) hJ d_75_13 rfl ?_
      exact s_iret hJ d_75_17 rfl rfl (h2 c0 c1)
-- ReelOfBoxesModel.at(I)I : method 76
theorem d_76_0 : decode c_76 0 = .ok (.aload_n 0, 1) := by decide +kernel
theorem d_76_1 : decode c_76 1 = .ok (.iload_n 1, 1) := by decide +kernel
theorem d_76_2 : decode c_76 2 = .ok (.invokevirtual 261, 3) := by decide +kernel
theorem d_76_5 : decode c_76 5 = .ok (.ifCond .eq (12), 3) := by decide +kernel
theorem d_76_8 : decode c_76 8 = .ok (.aload_n 0, 1) := by decide +kernel
theorem d_76_9 : decode c_76 9 = .ok (.getfield 23, 3) := by decide +kernel
theorem d_76_12 : decode c_76 12 = .ok (.iload_n 1, 1) := by decide +kernel
theorem d_76_13 : decode c_76 13 = .ok (.iaload, 1) := by decide +kernel
theorem d_76_14 : decode c_76 14 = .ok (.goto (4), 3) := by decide +kernel
theorem d_76_17 : decode c_76 17 = .ok (.iconst (-1), 1) := by decide +kernel
theorem d_76_18 : decode c_76 18 = .ok (.ireturn, 1) := by decide +kernel
set_option maxRecDepth 4000 in
theorem b_76_0 {mc ms : Nat} {X : Option (Nat × (Nat → Int32))} {T : aj_Tt} {Q : aj_Q} {J : aj_J} (hJ : aj_Cl 1 c_76 (some .int) false mc ms X T Q J) {o0 : Nat} {x1 : Int32} {Z : aj_Z} {I : aj_I} {G : aj_G} {C : Nat × Nat} (k0 : Z.2.1 o0 = some (.inl 1)) (h0 : T 0 0 75 [.ref o0, .int x1] Z I G (fun r Z1 I1 G1 => J 5 [some (.ref o0), some (.int x1)] (r.toList ++ []) Z1 I1 G1 C)) : J 0 [some (.ref o0), some (.int x1)] [] Z I G C := by
  refine s_aload_n hJ d_76_0 rfl ?_
  refine s_iload_n hJ d_76_1 rfl ?_
  exact s_V1 hJ lm_1_261 d_76_2 (Nat.le_of_ble_eq_true rfl) k0 (h0)
set_option maxRecDepth 4000 in
theorem b_76_5 {mc ms : Nat} {X : Option (Nat × (Nat → Int32))} {T : aj_Tt} {Q : aj_Q} {J : aj_J} (hJ : aj_Cl 1 c_76 (some .int) false mc ms X T Q J) {o0 : Nat} {x1 : Int32} {s0 : Int32} {q0 : Nat} {nk1 : Nat} {Z : aj_Z} {I : aj_I} {G : aj_G} {C : Nat × Nat} (h0 : s0 = 0 → Q (some (.int (-1))) Z I G) (k0 : Z.2.1 o0 = some (.inl 1)) (r0 : Z.2.2 o0 6 = .ref q0) (k1 : Z.2.1 q0 = some (.inr (0, nk1))) (h1 : ¬ s0 = 0 → vp_in x1 nk1) (h2 : ¬ s0 = 0 → Q (some (.int (I q0 (Int32.toNatClampNeg x1)))) Z I G) : J 5 [some (.ref o0), some (.int x1)] [.int s0] Z I G C := by
  refine s_if_eq (tgt := 17) hJ d_76_5 rfl (fun c0 => ?_) (fun c0 => ?_)
  · skip
    refine s_iconst_m1 hJ d_76_17 ?_
    exact s_iret hJ d_76_18 rfl rfl (h0 c0)
  · skip
    refine s_aload_n hJ d_76_8 rfl ?_
    refine s_getr hJ lf_1_23 rfl d_76_9 k0 r0 ?_
    refine s_iload_n hJ d_76_12 rfl ?_
    refine s_iald hJ d_76_13 k1 (h1 c0) ?_
    refine s_goto (tgt := 18) hJ d_76_14 rfl ?_
    exact s_iret hJ d_76_18 rfl rfl (h2 c0)
-- ReelOfBoxesModel.poke(II)Z : method 77
theorem d_77_0 : decode c_77 0 = .ok (.aload_n 0, 1) := by decide +kernel
theorem d_77_1 : decode c_77 1 = .ok (.iload_n 1, 1) := by decide +kernel
theorem d_77_2 : decode c_77 2 = .ok (.invokevirtual 261, 3) := by decide +kernel
theorem d_77_5 : decode c_77 5 = .ok (.ifCond .ne (5), 3) := by decide +kernel
theorem d_77_8 : decode c_77 8 = .ok (.iconst (0), 1) := by decide +kernel
theorem d_77_9 : decode c_77 9 = .ok (.ireturn, 1) := by decide +kernel
theorem d_77_10 : decode c_77 10 = .ok (.aload_n 0, 1) := by decide +kernel
theorem d_77_11 : decode c_77 11 = .ok (.getfield 23, 3) := by decide +kernel
theorem d_77_14 : decode c_77 14 = .ok (.iload_n 1, 1) := by decide +kernel
theorem d_77_15 : decode c_77 15 = .ok (.iload_n 2, 1) := by decide +kernel
theorem d_77_16 : decode c_77 16 = .ok (.sipush (255), 3) := by decide +kernel
theorem d_77_19 : decode c_77 19 = .ok (.iand, 1) := by decide +kernel
theorem d_77_20 : decode c_77 20 = .ok (.iastore, 1) := by decide +kernel
theorem d_77_21 : decode c_77 21 = .ok (.iconst (1), 1) := by decide +kernel
theorem d_77_22 : decode c_77 22 = .ok (.ireturn, 1) := by decide +kernel
set_option maxRecDepth 4000 in
theorem b_77_0 {mc ms : Nat} {X : Option (Nat × (Nat → Int32))} {T : aj_Tt} {Q : aj_Q} {J : aj_J} (hJ : aj_Cl 1 c_77 (some .boolean) false mc ms X T Q J) {o0 : Nat} {x1 : Int32} {x2 : Int32} {Z : aj_Z} {I : aj_I} {G : aj_G} {C : Nat × Nat} (k0 : Z.2.1 o0 = some (.inl 1)) (h0 : T 0 0 75 [.ref o0, .int x1] Z I G (fun r Z1 I1 G1 => J 5 [some (.ref o0), some (.int x1), some (.int x2)] (r.toList ++ []) Z1 I1 G1 C)) : J 0 [some (.ref o0), some (.int x1), some (.int x2)] [] Z I G C := by
  refine s_aload_n hJ d_77_0 rfl ?_
  refine s_iload_n hJ d_77_1 rfl ?_
  exact s_V1 hJ lm_1_261 d_77_2 (Nat.le_of_ble_eq_true rfl) k0 (h0)
set_option maxRecDepth 4000 in
theorem b_77_5 {mc ms : Nat} {X : Option (Nat × (Nat → Int32))} {T : aj_Tt} {Q : aj_Q} {J : aj_J} (hJ : aj_Cl 1 c_77 (some .boolean) false mc ms X T Q J) {o0 : Nat} {x1 : Int32} {x2 : Int32} {s0 : Int32} {q0 : Nat} {nk1 : Nat} {Z : aj_Z} {I : aj_I} {G : aj_G} {C : Nat × Nat} (k0 : Z.2.1 o0 = some (.inl 1)) (r0 : Z.2.2 o0 6 = .ref q0) (k1 : Z.2.1 q0 = some (.inr (0, nk1))) (h0 : ¬ s0 = 0 → vp_in x1 nk1) (h1 : ¬ s0 = 0 → Q (some (.int 1)) Z (aj_u2 I q0 (Int32.toNatClampNeg x1) (x2 &&& 255)) G) (h2 : s0 = 0 → Q (some (.int 0)) Z I G) : J 5 [some (.ref o0), some (.int x1), some (.int x2)] [.int s0] Z I G C := by
  refine s_if_ne (tgt := 10) hJ d_77_5 rfl (fun c0 => ?_) (fun c0 => ?_)
  · skip
    refine s_aload_n hJ d_77_10 rfl ?_
    refine s_getr hJ lf_1_23 rfl d_77_11 k0 r0 ?_
    refine s_iload_n hJ d_77_14 rfl ?_
    refine s_iload_n hJ d_77_15 rfl ?_
    refine s_sipush (v := 255) hJ d_77_16 (by decide) ?_
    refine s_iand hJ d_77_19 ?_
    refine s_iast hJ d_77_20 k1 (h0 c0) ?_
    refine s_iconst_1 hJ d_77_21 ?_
    exact s_iret hJ d_77_22 rfl rfl (h1 c0)
  · skip
    refine s_iconst_0 hJ d_77_8 ?_
    exact s_iret hJ d_77_9 rfl rfl (h2 c0)
-- ReelOfBoxesModel.append(JI)I : method 78
theorem d_78_0 : decode c_78 0 = .ok (.iload_n 3, 1) := by decide +kernel
theorem d_78_1 : decode c_78 1 = .ok (.iconst (1), 1) := by decide +kernel
theorem d_78_2 : decode c_78 2 = .ok (.if_icmp .lt (21), 3) := by decide +kernel
theorem d_78_5 : decode c_78 5 = .ok (.iload_n 3, 1) := by decide +kernel
theorem d_78_6 : decode c_78 6 = .ok (.bipush (8), 2) := by decide +kernel
theorem d_78_8 : decode c_78 8 = .ok (.if_icmp .gt (15), 3) := by decide +kernel
theorem d_78_11 : decode c_78 11 = .ok (.aload_n 0, 1) := by decide +kernel
theorem d_78_12 : decode c_78 12 = .ok (.getfield 71, 3) := by decide +kernel
theorem d_78_15 : decode c_78 15 = .ok (.iload_n 3, 1) := by decide +kernel
theorem d_78_16 : decode c_78 16 = .ok (.iadd, 1) := by decide +kernel
theorem d_78_17 : decode c_78 17 = .ok (.sipush (1200), 3) := by decide +kernel
theorem d_78_20 : decode c_78 20 = .ok (.if_icmp .le (5), 3) := by decide +kernel
theorem d_78_23 : decode c_78 23 = .ok (.iconst (-1), 1) := by decide +kernel
theorem d_78_24 : decode c_78 24 = .ok (.ireturn, 1) := by decide +kernel
theorem d_78_25 : decode c_78 25 = .ok (.aload_n 0, 1) := by decide +kernel
theorem d_78_26 : decode c_78 26 = .ok (.lload_n 1, 1) := by decide +kernel
theorem d_78_27 : decode c_78 27 = .ok (.iload_n 3, 1) := by decide +kernel
theorem d_78_28 : decode c_78 28 = .ok (.invokevirtual 76, 3) := by decide +kernel
theorem d_78_31 : decode c_78 31 = .ok (.aload_n 0, 1) := by decide +kernel
theorem d_78_32 : decode c_78 32 = .ok (.getfield 71, 3) := by decide +kernel
theorem d_78_35 : decode c_78 35 = .ok (.ireturn, 1) := by decide +kernel
set_option maxRecDepth 4000 in
theorem b_78_0 {mc ms : Nat} {X : Option (Nat × (Nat → Int32))} {T : aj_Tt} {Q : aj_Q} {J : aj_J} (hJ : aj_Cl 1 c_78 (some .int) false mc ms X T Q J) {o0 : Nat} {x1 : Int64} {x3 : Int32} {Z : aj_Z} {I : aj_I} {G : aj_G} {C : Nat × Nat} (h0 : x3 < 1 → Q (some (.int (-1))) Z I G) (h1 : ¬ x3 < 1 → 8 < x3 → Q (some (.int (-1))) Z I G) (k0 : Z.2.1 o0 = some (.inl 1)) (h2 : ¬ x3 < 1 → ¬ 8 < x3 → ((I o0 5) + x3) ≤ 1200 → T 0 0 25 [.ref o0, .long x1, .int x3] Z I G (fun r Z1 I1 G1 => J 31 [some (.ref o0), some (.long x1), none, some (.int x3)] (r.toList ++ []) Z1 I1 G1 C)) (h3 : ¬ x3 < 1 → ¬ 8 < x3 → ¬ ((I o0 5) + x3) ≤ 1200 → Q (some (.int (-1))) Z I G) : J 0 [some (.ref o0), some (.long x1), none, some (.int x3)] [] Z I G C := by
  refine s_iload_n hJ d_78_0 rfl ?_
  refine s_iconst_1 hJ d_78_1 ?_
  refine s_icmp_lt (tgt := 23) hJ d_78_2 rfl (fun c0 => ?_) (fun c0 => ?_)
  · skip
    refine s_iconst_m1 hJ d_78_23 ?_
    exact s_iret hJ d_78_24 rfl rfl (h0 c0)
  · skip
    refine s_iload_n hJ d_78_5 rfl ?_
    refine s_bipush (v := 8) hJ d_78_6 (by decide) ?_
    refine s_icmp_gt (tgt := 23) hJ d_78_8 rfl (fun c1 => ?_) (fun c1 => ?_)
    · skip
      refine s_iconst_m1 hJ d_78_23 ?_
      exact s_iret hJ d_78_24 rfl rfl (h1 c0 c1)
    · skip
      refine s_aload_n hJ d_78_11 rfl ?_
      refine s_geti hJ lf_1_71 rfl d_78_12 k0 ?_
      refine s_iload_n hJ d_78_15 rfl ?_
      refine s_iadd hJ d_78_16 ?_
      refine s_sipush (v := 1200) hJ d_78_17 (by decide) ?_
      refine s_icmp_le (tgt := 25) hJ d_78_20 rfl (fun c2 => ?_) (fun c2 => ?_)
      · skip
        refine s_aload_n hJ d_78_25 rfl ?_
        refine s_lload_n hJ d_78_26 rfl ?_
        refine s_iload_n hJ d_78_27 rfl ?_
        exact s_V2 hJ lm_1_76 d_78_28 (Nat.le_of_ble_eq_true rfl) k0 (h2 c0 c1 c2)
      · skip
        refine s_iconst_m1 hJ d_78_23 ?_
        exact s_iret hJ d_78_24 rfl rfl (h3 c0 c1 c2)
set_option maxRecDepth 4000 in
theorem b_78_31 {mc ms : Nat} {X : Option (Nat × (Nat → Int32))} {T : aj_Tt} {Q : aj_Q} {J : aj_J} (hJ : aj_Cl 1 c_78 (some .int) false mc ms X T Q J) {o0 : Nat} {w1 : Option Value} {w2 : Option Value} {w3 : Option Value} {Z : aj_Z} {I : aj_I} {G : aj_G} {C : Nat × Nat} (k0 : Z.2.1 o0 = some (.inl 1)) (h0 : Q (some (.int (I o0 5))) Z I G) : J 31 [some (.ref o0), w1, w2, w3] [] Z I G C := by
  refine s_aload_n hJ d_78_31 rfl ?_
  refine s_geti hJ lf_1_71 rfl d_78_32 k0 ?_
  exact s_iret hJ d_78_35 rfl rfl (h0)
-- ReelOfBoxesModel.cut(I)Z : method 79
theorem d_79_0 : decode c_79 0 = .ok (.iload_n 1, 1) := by decide +kernel
theorem d_79_1 : decode c_79 1 = .ok (.ifCond .lt (11), 3) := by decide +kernel
theorem d_79_4 : decode c_79 4 = .ok (.iload_n 1, 1) := by decide +kernel
theorem d_79_5 : decode c_79 5 = .ok (.aload_n 0, 1) := by decide +kernel
theorem d_79_6 : decode c_79 6 = .ok (.getfield 71, 3) := by decide +kernel
theorem d_79_9 : decode c_79 9 = .ok (.if_icmp .le (5), 3) := by decide +kernel
theorem d_79_12 : decode c_79 12 = .ok (.iconst (0), 1) := by decide +kernel
theorem d_79_13 : decode c_79 13 = .ok (.ireturn, 1) := by decide +kernel
theorem d_79_14 : decode c_79 14 = .ok (.aload_n 0, 1) := by decide +kernel
theorem d_79_15 : decode c_79 15 = .ok (.iload_n 1, 1) := by decide +kernel
theorem d_79_16 : decode c_79 16 = .ok (.putfield 71, 3) := by decide +kernel
theorem d_79_19 : decode c_79 19 = .ok (.iconst (1), 1) := by decide +kernel
theorem d_79_20 : decode c_79 20 = .ok (.ireturn, 1) := by decide +kernel
set_option maxRecDepth 4000 in
theorem b_79_0 {mc ms : Nat} {X : Option (Nat × (Nat → Int32))} {T : aj_Tt} {Q : aj_Q} {J : aj_J} (hJ : aj_Cl 1 c_79 (some .boolean) false mc ms X T Q J) {o0 : Nat} {x1 : Int32} {Z : aj_Z} {I : aj_I} {G : aj_G} {C : Nat × Nat} (h0 : x1 < 0 → Q (some (.int 0)) Z I G) (k0 : Z.2.1 o0 = some (.inl 1)) (h1 : ¬ x1 < 0 → x1 ≤ (I o0 5) → Q (some (.int 1)) Z (aj_u2 I o0 5 x1) G) (h2 : ¬ x1 < 0 → ¬ x1 ≤ (I o0 5) → Q (some (.int 0)) Z I G) : J 0 [some (.ref o0), some (.int x1)] [] Z I G C := by
  refine s_iload_n hJ d_79_0 rfl ?_
  refine s_if_lt (tgt := 12) hJ d_79_1 rfl (fun c0 => ?_) (fun c0 => ?_)
  · skip
    refine s_iconst_0 hJ d_79_12 ?_
    exact s_iret hJ d_79_13 rfl rfl (h0 c0)
  · skip
    refine s_iload_n hJ d_79_4 rfl ?_
    refine s_aload_n hJ d_79_5 rfl ?_
    refine s_geti hJ lf_1_71 rfl d_79_6 k0 ?_
    refine s_icmp_le (tgt := 14) hJ d_79_9 rfl (fun c1 => ?_) (fun c1 => ?_)
    · skip
      refine s_aload_n hJ d_79_14 rfl ?_
      refine s_iload_n hJ d_79_15 rfl ?_
      refine s_puti hJ lf_1_71 rfl d_79_16 k0 ?_
      refine s_iconst_1 hJ d_79_19 ?_
      exact s_iret hJ d_79_20 rfl rfl (h1 c0 c1)
    · skip
      refine s_iconst_0 hJ d_79_12 ?_
      exact s_iret hJ d_79_13 rfl rfl (h2 c0 c1)
