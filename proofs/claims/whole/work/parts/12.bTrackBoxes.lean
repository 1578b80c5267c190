/-! decode rows and block rows, by a program -/
-- ReelOfBoxes$TrackBoxes.unfoldDurations()V : method 151
theorem d_151_0 : decode c_151 0 = .ok (.aload_n 0, 1) := by decide +kernel
theorem d_151_1 : decode c_151 1 = .ok (.getfield 11, 3) := by decide +kernel
theorem d_151_4 : decode c_151 4 = .ok (.iconst (0), 1) := by decide +kernel
theorem d_151_5 : decode c_151 5 = .ok (.aaload, 1) := by decide +kernel
theorem d_151_6 : decode c_151 6 = .ok (.astore_n 1, 1) := by decide +kernel
theorem d_151_7 : decode c_151 7 = .ok (.aload_n 1, 1) := by decide +kernel
theorem d_151_8 : decode c_151 8 = .ok (.invokevirtual 69, 3) := by decide +kernel
theorem d_151_11 : decode c_151 11 = .ok (.istore_n 2, 1) := by decide +kernel
theorem d_151_12 : decode c_151 12 = .ok (.iconst (0), 1) := by decide +kernel
theorem d_151_13 : decode c_151 13 = .ok (.istore_n 3, 1) := by decide +kernel
theorem d_151_14 : decode c_151 14 = .ok (.iconst (0), 1) := by decide +kernel
theorem d_151_15 : decode c_151 15 = .ok (.istore 4, 2) := by decide +kernel
theorem d_151_17 : decode c_151 17 = .ok (.iload 4, 2) := by decide +kernel
theorem d_151_19 : decode c_151 19 = .ok (.iload_n 2, 1) := by decide +kernel
theorem d_151_20 : decode c_151 20 = .ok (.if_icmp .ge (61), 3) := by decide +kernel
theorem d_151_23 : decode c_151 23 = .ok (.aload_n 1, 1) := by decide +kernel
theorem d_151_24 : decode c_151 24 = .ok (.iload 4, 2) := by decide +kernel
theorem d_151_26 : decode c_151 26 = .ok (.iconst (0), 1) := by decide +kernel
theorem d_151_27 : decode c_151 27 = .ok (.invokevirtual 73, 3) := by decide +kernel
theorem d_151_30 : decode c_151 30 = .ok (.lstore 5, 2) := by decide +kernel
theorem d_151_32 : decode c_151 32 = .ok (.iconst (0), 1) := by decide +kernel
theorem d_151_33 : decode c_151 33 = .ok (.istore 7, 2) := by decide +kernel
theorem d_151_35 : decode c_151 35 = .ok (.iload 7, 2) := by decide +kernel
theorem d_151_37 : decode c_151 37 = .ok (.i2l, 1) := by decide +kernel
theorem d_151_38 : decode c_151 38 = .ok (.lload 5, 2) := by decide +kernel
theorem d_151_40 : decode c_151 40 = .ok (.lcmp, 1) := by decide +kernel
theorem d_151_41 : decode c_151 41 = .ok (.ifCond .ge (34), 3) := by decide +kernel
theorem d_151_44 : decode c_151 44 = .ok (.iload_n 3, 1) := by decide +kernel
theorem d_151_45 : decode c_151 45 = .ok (.aload_n 0, 1) := by decide +kernel
theorem d_151_46 : decode c_151 46 = .ok (.getfield 28, 3) := by decide +kernel
theorem d_151_49 : decode c_151 49 = .ok (.if_icmp .ge (26), 3) := by decide +kernel
theorem d_151_52 : decode c_151 52 = .ok (.aload_n 0, 1) := by decide +kernel
theorem d_151_53 : decode c_151 53 = .ok (.getfield 17, 3) := by decide +kernel
theorem d_151_56 : decode c_151 56 = .ok (.iload_n 3, 1) := by decide +kernel
theorem d_151_57 : decode c_151 57 = .ok (.aload_n 1, 1) := by decide +kernel
theorem d_151_58 : decode c_151 58 = .ok (.iload 4, 2) := by decide +kernel
theorem d_151_60 : decode c_151 60 = .ok (.iconst (1), 1) := by decide +kernel
theorem d_151_61 : decode c_151 61 = .ok (.invokevirtual 73, 3) := by decide +kernel
theorem d_151_64 : decode c_151 64 = .ok (.l2i, 1) := by decide +kernel
theorem d_151_65 : decode c_151 65 = .ok (.iastore, 1) := by decide +kernel
theorem d_151_66 : decode c_151 66 = .ok (.iinc 3 (1), 3) := by decide +kernel
theorem d_151_69 : decode c_151 69 = .ok (.iinc 7 (1), 3) := by decide +kernel
theorem d_151_72 : decode c_151 72 = .ok (.goto (-37), 3) := by decide +kernel
theorem d_151_75 : decode c_151 75 = .ok (.iinc 4 (1), 3) := by decide +kernel
theorem d_151_78 : decode c_151 78 = .ok (.goto (-61), 3) := by decide +kernel
theorem d_151_81 : decode c_151 81 = .ok (.return_, 1) := by decide +kernel
set_option maxRecDepth 4000 in
theorem b_151_0 {mc ms : Nat} {X : Option (Nat × (Nat → Int32))} {T : aj_Tt} {Q : aj_Q} {J : aj_J} (hJ : aj_Cl 9 c_151 (none) false mc ms X T Q J) {o0 : Nat} {q0 : Nat} {nk1 : Nat} {q1 : Nat} {Z : aj_Z} {I : aj_I} {G : aj_G} {C : Nat × Nat} (k0 : Z.2.1 o0 = some (.inl 9)) (r0 : Z.2.2 o0 0 = .ref q0) (k1 : Z.2.1 q0 = some (.inr (6, nk1))) (h0 : vp_in 0 nk1) (h1 : Z.2.2 q0 (Int32.toNatClampNeg 0) = .ref q1) (k3 : Z.2.1 q1 = some (.inl 7)) (h2 : T 0 0 122 [.ref q1] Z I G (fun r Z1 I1 G1 => J 11 [some (.ref o0), some (.ref q1), none, none, none, none, none, none] (r.toList ++ []) Z1 I1 G1 C)) : J 0 [some (.ref o0), none, none, none, none, none, none, none] [] Z I G C := by
  refine s_aload_n hJ d_151_0 rfl ?_
  refine s_getr hJ lf_9_11 rfl d_151_1 k0 r0 ?_
  refine s_iconst_0 hJ d_151_4 ?_
  refine s_aald hJ d_151_5 k1 tc_6 (h0) (h1) ?_
  refine s_astore_n hJ d_151_6 (Nat.le_of_ble_eq_true rfl) ?_
  refine s_aload_n hJ d_151_7 rfl ?_
  exact s_V0 hJ lm_9_69 d_151_8 (Nat.le_of_ble_eq_true rfl) k3 (h2)
set_option maxRecDepth 4000 in
theorem b_151_11 {mc ms : Nat} {X : Option (Nat × (Nat → Int32))} {T : aj_Tt} {Q : aj_Q} {J : aj_J} (hJ : aj_Cl 9 c_151 (none) false mc ms X T Q J) {o0 : Nat} {o1 : Nat} {w2 : Option Value} {w3 : Option Value} {w4 : Option Value} {w5 : Option Value} {w6 : Option Value} {w7 : Option Value} {s0 : Int32} {Z : aj_Z} {I : aj_I} {G : aj_G} {C : Nat × Nat} (h0 : J 17 [some (.ref o0), some (.ref o1), some (.int s0), some (.int 0), some (.int 0), w5, w6, w7] [] Z I G C) : J 11 [some (.ref o0), some (.ref o1), w2, w3, w4, w5, w6, w7] [.int s0] Z I G C := by
  refine s_istore_n hJ d_151_11 (Nat.le_of_ble_eq_true rfl) ?_
  refine s_iconst_0 hJ d_151_12 ?_
  refine s_istore_n hJ d_151_13 (Nat.le_of_ble_eq_true rfl) ?_
  refine s_iconst_0 hJ d_151_14 ?_
  refine s_istore hJ d_151_15 (Nat.le_of_ble_eq_true rfl) ?_
  exact h0
set_option maxRecDepth 4000 in
theorem b_151_17 {mc ms : Nat} {X : Option (Nat × (Nat → Int32))} {T : aj_Tt} {Q : aj_Q} {J : aj_J} (hJ : aj_Cl 9 c_151 (none) false mc ms X T Q J) {o0 : Nat} {o1 : Nat} {x2 : Int32} {x3 : Int32} {x4 : Int32} {w5 : Option Value} {w6 : Option Value} {w7 : Option Value} {Z : aj_Z} {I : aj_I} {G : aj_G} {C : Nat × Nat} (h0 : x2 ≤ x4 → Q none Z I G) (k0 : Z.2.1 o1 = some (.inl 7)) (h1 : ¬ x2 ≤ x4 → T 0 0 123 [.ref o1, .int x4, .int 0] Z I G (fun r Z1 I1 G1 => J 30 [some (.ref o0), some (.ref o1), some (.int x2), some (.int x3), some (.int x4), w5, w6, w7] (r.toList ++ []) Z1 I1 G1 C)) : J 17 [some (.ref o0), some (.ref o1), some (.int x2), some (.int x3), some (.int x4), w5, w6, w7] [] Z I G C := by
  refine s_iload hJ d_151_17 rfl ?_
  refine s_iload_n hJ d_151_19 rfl ?_
  refine s_icmp_ge (tgt := 81) hJ d_151_20 rfl (fun c0 => ?_) (fun c0 => ?_)
  · skip
    exact s_vret hJ d_151_81 rfl (h0 c0)
  · skip
    refine s_aload_n hJ d_151_23 rfl ?_
    refine s_iload hJ d_151_24 rfl ?_
    refine s_iconst_0 hJ d_151_26 ?_
    exact s_V2 hJ lm_9_73 d_151_27 (Nat.le_of_ble_eq_true rfl) k0 (h1 c0)
set_option maxRecDepth 4000 in
theorem b_151_30 {mc ms : Nat} {X : Option (Nat × (Nat → Int32))} {T : aj_Tt} {Q : aj_Q} {J : aj_J} (hJ : aj_Cl 9 c_151 (none) false mc ms X T Q J) {o0 : Nat} {o1 : Nat} {x2 : Int32} {x3 : Int32} {x4 : Int32} {w5 : Option Value} {w6 : Option Value} {w7 : Option Value} {s0 : Int64} {Z : aj_Z} {I : aj_I} {G : aj_G} {C : Nat × Nat} (h0 : J 35 [some (.ref o0), some (.ref o1), some (.int x2), some (.int x3), some (.int x4), some (.long s0), none, some (.int 0)] [] Z I G C) : J 30 [some (.ref o0), some (.ref o1), some (.int x2), some (.int x3), some (.int x4), w5, w6, w7] [.long s0] Z I G C := by
  refine s_lstore hJ d_151_30 (Nat.le_of_ble_eq_true rfl) ?_
  refine s_iconst_0 hJ d_151_32 ?_
  refine s_istore hJ d_151_33 (Nat.le_of_ble_eq_true rfl) ?_
  exact h0
set_option maxRecDepth 4000 in
theorem b_151_35 {mc ms : Nat} {X : Option (Nat × (Nat → Int32))} {T : aj_Tt} {Q : aj_Q} {J : aj_J} (hJ : aj_Cl 9 c_151 (none) false mc ms X T Q J) {o0 : Nat} {o1 : Nat} {x2 : Int32} {x3 : Int32} {x4 : Int32} {x5 : Int64} {w6 : Option Value} {x7 : Int32} {q0 : Nat} {Z : aj_Z} {I : aj_I} {G : aj_G} {C : Nat × Nat} (h0 : x5 ≤ (Int32.toInt64 x7) → J 17 [some (.ref o0), some (.ref o1), some (.int x2), some (.int x3), some (.int (x4 + 1)), some (.long x5), w6, some (.int x7)] [] Z I G C) (k0 : Z.2.1 o0 = some (.inl 9)) (h1 : ¬ x5 ≤ (Int32.toInt64 x7) → (I o0 4) ≤ x3 → J 17 [some (.ref o0), some (.ref o1), some (.int x2), some (.int x3), some (.int (x4 + 1)), some (.long x5), w6, some (.int x7)] [] Z I G C) (r0 : Z.2.2 o0 1 = .ref q0) (k1 : Z.2.1 o1 = some (.inl 7)) (h2 : ¬ x5 ≤ (Int32.toInt64 x7) → ¬ (I o0 4) ≤ x3 → T 0 0 123 [.ref o1, .int x4, .int 1] Z I G (fun r Z1 I1 G1 => J 64 [some (.ref o0), some (.ref o1), some (.int x2), some (.int x3), some (.int x4), some (.long x5), w6, some (.int x7)] (r.toList ++ [.int x3, .ref q0]) Z1 I1 G1 C)) : J 35 [some (.ref o0), some (.ref o1), some (.int x2), some (.int x3), some (.int x4), some (.long x5), w6, some (.int x7)] [] Z I G C := by
  refine s_iload hJ d_151_35 rfl ?_
  refine s_i2l hJ d_151_37 ?_
  refine s_lload hJ d_151_38 rfl ?_
  refine s_lif_ge (tgt := 75) hJ d_151_40 d_151_41 rfl (fun c0 => ?_) (fun c0 => ?_)
  · skip
    refine s_iinc (v := 1) hJ d_151_75 rfl (by decide) ?_
    refine s_goto (tgt := 17) hJ d_151_78 rfl ?_
    exact h0 c0
  · skip
    refine s_iload_n hJ d_151_44 rfl ?_
    refine s_aload_n hJ d_151_45 rfl ?_
    refine s_geti hJ lf_9_28 rfl d_151_46 k0 ?_
    refine s_icmp_ge (tgt := 75) hJ d_151_49 rfl (fun c1 => ?_) (fun c1 => ?_)
    · skip
      refine s_iinc (v := 1) hJ d_151_75 rfl (by decide) ?_
      refine s_goto (tgt := 17) hJ d_151_78 rfl ?_
      exact h1 c0 c1
    · skip
      refine s_aload_n hJ d_151_52 rfl ?_
      refine s_getr hJ lf_9_17 rfl d_151_53 k0 r0 ?_
      refine s_iload_n hJ d_151_56 rfl ?_
      refine s_aload_n hJ d_151_57 rfl ?_
      refine s_iload hJ d_151_58 rfl ?_
      refine s_iconst_1 hJ d_151_60 ?_
      exact s_V2 hJ lm_9_73 d_151_61 (Nat.le_of_ble_eq_true rfl) k1 (h2 c0 c1)
set_option maxRecDepth 4000 in
theorem b_151_64 {mc ms : Nat} {X : Option (Nat × (Nat → Int32))} {T : aj_Tt} {Q : aj_Q} {J : aj_J} (hJ : aj_Cl 9 c_151 (none) false mc ms X T Q J) {o0 : Nat} {o1 : Nat} {x2 : Int32} {x3 : Int32} {x4 : Int32} {x5 : Int64} {w6 : Option Value} {x7 : Int32} {s0 : Int64} {s1 : Int32} {s2 : Nat} {nk0 : Nat} {Z : aj_Z} {I : aj_I} {G : aj_G} {C : Nat × Nat} (k0 : Z.2.1 s2 = some (.inr (0, nk0))) (h0 : vp_in s1 nk0) (h1 : J 35 [some (.ref o0), some (.ref o1), some (.int x2), some (.int (x3 + 1)), some (.int x4), some (.long x5), (aj_clr w6), some (.int (x7 + 1))] [] Z (aj_u2 I s2 (Int32.toNatClampNeg s1) (Int64.toInt32 s0)) G C) : J 64 [some (.ref o0), some (.ref o1), some (.int x2), some (.int x3), some (.int x4), some (.long x5), w6, some (.int x7)] [.long s0, .int s1, .ref s2] Z I G C := by
  refine s_l2i hJ d_151_64 ?_
  refine s_iast hJ d_151_65 k0 (h0) ?_
  refine s_iinc (v := 1) hJ d_151_66 rfl (by decide) ?_
  refine s_iinc (v := 1) hJ d_151_69 rfl (by decide) ?_
  refine s_goto (tgt := 35) hJ d_151_72 rfl ?_
  exact h1
-- ReelOfBoxes$TrackBoxes.unfoldBegins()V : method 152
theorem d_152_0 : decode c_152 0 = .ok (.aload_n 0, 1) := by decide +kernel
theorem d_152_1 : decode c_152 1 = .ok (.getfield 11, 3) := by decide +kernel
theorem d_152_4 : decode c_152 4 = .ok (.iconst (1), 1) := by decide +kernel
theorem d_152_5 : decode c_152 5 = .ok (.aaload, 1) := by decide +kernel
theorem d_152_6 : decode c_152 6 = .ok (.astore_n 1, 1) := by decide +kernel
theorem d_152_7 : decode c_152 7 = .ok (.aload_n 1, 1) := by decide +kernel
theorem d_152_8 : decode c_152 8 = .ok (.invokevirtual 69, 3) := by decide +kernel
theorem d_152_11 : decode c_152 11 = .ok (.istore_n 2, 1) := by decide +kernel
theorem d_152_12 : decode c_152 12 = .ok (.aload_n 0, 1) := by decide +kernel
theorem d_152_13 : decode c_152 13 = .ok (.getfield 11, 3) := by decide +kernel
theorem d_152_16 : decode c_152 16 = .ok (.iconst (3), 1) := by decide +kernel
theorem d_152_17 : decode c_152 17 = .ok (.aaload, 1) := by decide +kernel
theorem d_152_18 : decode c_152 18 = .ok (.invokevirtual 69, 3) := by decide +kernel
theorem d_152_21 : decode c_152 21 = .ok (.istore_n 3, 1) := by decide +kernel
theorem d_152_22 : decode c_152 22 = .ok (.iconst (0), 1) := by decide +kernel
theorem d_152_23 : decode c_152 23 = .ok (.istore 4, 2) := by decide +kernel
theorem d_152_25 : decode c_152 25 = .ok (.iconst (0), 1) := by decide +kernel
theorem d_152_26 : decode c_152 26 = .ok (.istore 5, 2) := by decide +kernel
theorem d_152_28 : decode c_152 28 = .ok (.iconst (0), 1) := by decide +kernel
theorem d_152_29 : decode c_152 29 = .ok (.istore 6, 2) := by decide +kernel
theorem d_152_31 : decode c_152 31 = .ok (.iload 6, 2) := by decide +kernel
theorem d_152_33 : decode c_152 33 = .ok (.iload_n 3, 1) := by decide +kernel
theorem d_152_34 : decode c_152 34 = .ok (.if_icmp .ge (113), 3) := by decide +kernel
theorem d_152_37 : decode c_152 37 = .ok (.iload 4, 2) := by decide +kernel
theorem d_152_39 : decode c_152 39 = .ok (.iconst (1), 1) := by decide +kernel
theorem d_152_40 : decode c_152 40 = .ok (.iadd, 1) := by decide +kernel
theorem d_152_41 : decode c_152 41 = .ok (.iload_n 2, 1) := by decide +kernel
theorem d_152_42 : decode c_152 42 = .ok (.if_icmp .ge (24), 3) := by decide +kernel
theorem d_152_45 : decode c_152 45 = .ok (.aload_n 1, 1) := by decide +kernel
theorem d_152_46 : decode c_152 46 = .ok (.iload 4, 2) := by decide +kernel
theorem d_152_48 : decode c_152 48 = .ok (.iconst (1), 1) := by decide +kernel
theorem d_152_49 : decode c_152 49 = .ok (.iadd, 1) := by decide +kernel
theorem d_152_50 : decode c_152 50 = .ok (.iconst (0), 1) := by decide +kernel
theorem d_152_51 : decode c_152 51 = .ok (.invokevirtual 73, 3) := by decide +kernel
theorem d_152_54 : decode c_152 54 = .ok (.iload 6, 2) := by decide +kernel
theorem d_152_56 : decode c_152 56 = .ok (.iconst (1), 1) := by decide +kernel
theorem d_152_57 : decode c_152 57 = .ok (.iadd, 1) := by decide +kernel
theorem d_152_58 : decode c_152 58 = .ok (.i2l, 1) := by decide +kernel
theorem d_152_59 : decode c_152 59 = .ok (.lcmp, 1) := by decide +kernel
theorem d_152_60 : decode c_152 60 = .ok (.ifCond .ne (6), 3) := by decide +kernel
theorem d_152_63 : decode c_152 63 = .ok (.iinc 4 (1), 3) := by decide +kernel
theorem d_152_66 : decode c_152 66 = .ok (.aload_n 0, 1) := by decide +kernel
theorem d_152_67 : decode c_152 67 = .ok (.getfield 11, 3) := by decide +kernel
theorem d_152_70 : decode c_152 70 = .ok (.iconst (3), 1) := by decide +kernel
theorem d_152_71 : decode c_152 71 = .ok (.aaload, 1) := by decide +kernel
theorem d_152_72 : decode c_152 72 = .ok (.iload 6, 2) := by decide +kernel
theorem d_152_74 : decode c_152 74 = .ok (.iconst (0), 1) := by decide +kernel
theorem d_152_75 : decode c_152 75 = .ok (.invokevirtual 73, 3) := by decide +kernel
theorem d_152_78 : decode c_152 78 = .ok (.lstore 7, 2) := by decide +kernel
theorem d_152_80 : decode c_152 80 = .ok (.aload_n 1, 1) := by decide +kernel
theorem d_152_81 : decode c_152 81 = .ok (.iload 4, 2) := by decide +kernel
theorem d_152_83 : decode c_152 83 = .ok (.iconst (1), 1) := by decide +kernel
theorem d_152_84 : decode c_152 84 = .ok (.invokevirtual 73, 3) := by decide +kernel
theorem d_152_87 : decode c_152 87 = .ok (.lstore 9, 2) := by decide +kernel
theorem d_152_89 : decode c_152 89 = .ok (.iconst (0), 1) := by decide +kernel
theorem d_152_90 : decode c_152 90 = .ok (.istore 11, 2) := by decide +kernel
theorem d_152_92 : decode c_152 92 = .ok (.iload 11, 2) := by decide +kernel
theorem d_152_94 : decode c_152 94 = .ok (.i2l, 1) := by decide +kernel
theorem d_152_95 : decode c_152 95 = .ok (.lload 9, 2) := by decide +kernel
theorem d_152_97 : decode c_152 97 = .ok (.lcmp, 1) := by decide +kernel
theorem d_152_98 : decode c_152 98 = .ok (.ifCond .ge (43), 3) := by decide +kernel
theorem d_152_101 : decode c_152 101 = .ok (.iload 5, 2) := by decide +kernel
theorem d_152_103 : decode c_152 103 = .ok (.aload_n 0, 1) := by decide +kernel
theorem d_152_104 : decode c_152 104 = .ok (.getfield 28, 3) := by decide +kernel
theorem d_152_107 : decode c_152 107 = .ok (.if_icmp .ge (34), 3) := by decide +kernel
theorem d_152_110 : decode c_152 110 = .ok (.aload_n 0, 1) := by decide +kernel
theorem d_152_111 : decode c_152 111 = .ok (.getfield 24, 3) := by decide +kernel
theorem d_152_114 : decode c_152 114 = .ok (.iload 5, 2) := by decide +kernel
theorem d_152_116 : decode c_152 116 = .ok (.lload 7, 2) := by decide +kernel
theorem d_152_118 : decode c_152 118 = .ok (.lastore, 1) := by decide +kernel
theorem d_152_119 : decode c_152 119 = .ok (.lload 7, 2) := by decide +kernel
theorem d_152_121 : decode c_152 121 = .ok (.aload_n 0, 1) := by decide +kernel
theorem d_152_122 : decode c_152 122 = .ok (.getfield 21, 3) := by decide +kernel
theorem d_152_125 : decode c_152 125 = .ok (.iload 5, 2) := by decide +kernel
theorem d_152_127 : decode c_152 127 = .ok (.iaload, 1) := by decide +kernel
theorem d_152_128 : decode c_152 128 = .ok (.i2l, 1) := by decide +kernel
theorem d_152_129 : decode c_152 129 = .ok (.ladd, 1) := by decide +kernel
theorem d_152_130 : decode c_152 130 = .ok (.lstore 7, 2) := by decide +kernel
theorem d_152_132 : decode c_152 132 = .ok (.iinc 5 (1), 3) := by decide +kernel
theorem d_152_135 : decode c_152 135 = .ok (.iinc 11 (1), 3) := by decide +kernel
theorem d_152_138 : decode c_152 138 = .ok (.goto (-46), 3) := by decide +kernel
theorem d_152_141 : decode c_152 141 = .ok (.iinc 6 (1), 3) := by decide +kernel
theorem d_152_144 : decode c_152 144 = .ok (.goto (-113), 3) := by decide +kernel
theorem d_152_147 : decode c_152 147 = .ok (.return_, 1) := by decide +kernel
set_option maxRecDepth 4000 in
theorem b_152_0 {mc ms : Nat} {X : Option (Nat × (Nat → Int32))} {T : aj_Tt} {Q : aj_Q} {J : aj_J} (hJ : aj_Cl 9 c_152 (none) false mc ms X T Q J) {o0 : Nat} {q0 : Nat} {nk1 : Nat} {q1 : Nat} {Z : aj_Z} {I : aj_I} {G : aj_G} {C : Nat × Nat} (k0 : Z.2.1 o0 = some (.inl 9)) (r0 : Z.2.2 o0 0 = .ref q0) (k1 : Z.2.1 q0 = some (.inr (6, nk1))) (h0 : vp_in 1 nk1) (h1 : Z.2.2 q0 (Int32.toNatClampNeg 1) = .ref q1) (k3 : Z.2.1 q1 = some (.inl 7)) (h2 : T 0 0 122 [.ref q1] Z I G (fun r Z1 I1 G1 => J 11 [some (.ref o0), some (.ref q1), none, none, none, none, none, none, none, none, none, none] (r.toList ++ []) Z1 I1 G1 C)) : J 0 [some (.ref o0), none, none, none, none, none, none, none, none, none, none, none] [] Z I G C := by
  refine s_aload_n hJ d_152_0 rfl ?_
  refine s_getr hJ lf_9_11 rfl d_152_1 k0 r0 ?_
  refine s_iconst_1 hJ d_152_4 ?_
  refine s_aald hJ d_152_5 k1 tc_6 (h0) (h1) ?_
  refine s_astore_n hJ d_152_6 (Nat.le_of_ble_eq_true rfl) ?_
  refine s_aload_n hJ d_152_7 rfl ?_
  exact s_V0 hJ lm_9_69 d_152_8 (Nat.le_of_ble_eq_true rfl) k3 (h2)
set_option maxRecDepth 4000 in
theorem b_152_11 {mc ms : Nat} {X : Option (Nat × (Nat → Int32))} {T : aj_Tt} {Q : aj_Q} {J : aj_J} (hJ : aj_Cl 9 c_152 (none) false mc ms X T Q J) {o0 : Nat} {o1 : Nat} {w2 : Option Value} {w3 : Option Value} {w4 : Option Value} {w5 : Option Value} {w6 : Option Value} {w7 : Option Value} {w8 : Option Value} {w9 : Option Value} {w10 : Option Value} {w11 : Option Value} {s0 : Int32} {q0 : Nat} {nk1 : Nat} {q1 : Nat} {Z : aj_Z} {I : aj_I} {G : aj_G} {C : Nat × Nat} (k0 : Z.2.1 o0 = some (.inl 9)) (r0 : Z.2.2 o0 0 = .ref q0) (k1 : Z.2.1 q0 = some (.inr (6, nk1))) (h0 : vp_in 3 nk1) (h1 : Z.2.2 q0 (Int32.toNatClampNeg 3) = .ref q1) (k3 : Z.2.1 q1 = some (.inl 7)) (h2 : T 0 0 122 [.ref q1] Z I G (fun r Z1 I1 G1 => J 21 [some (.ref o0), some (.ref o1), some (.int s0), w3, w4, w5, w6, w7, w8, w9, w10, w11] (r.toList ++ []) Z1 I1 G1 C)) : J 11 [some (.ref o0), some (.ref o1), w2, w3, w4, w5, w6, w7, w8, w9, w10, w11] [.int s0] Z I G C := by
  refine s_istore_n hJ d_152_11 (Nat.le_of_ble_eq_true rfl) ?_
  refine s_aload_n hJ d_152_12 rfl ?_
  refine s_getr hJ lf_9_11 rfl d_152_13 k0 r0 ?_
  refine s_iconst_3 hJ d_152_16 ?_
  refine s_aald hJ d_152_17 k1 tc_6 (h0) (h1) ?_
  exact s_V0 hJ lm_9_69 d_152_18 (Nat.le_of_ble_eq_true rfl) k3 (h2)
set_option maxRecDepth 4000 in
theorem b_152_21 {mc ms : Nat} {X : Option (Nat × (Nat → Int32))} {T : aj_Tt} {Q : aj_Q} {J : aj_J} (hJ : aj_Cl 9 c_152 (none) false mc ms X T Q J) {o0 : Nat} {o1 : Nat} {x2 : Int32} {w3 : Option Value} {w4 : Option Value} {w5 : Option Value} {w6 : Option Value} {w7 : Option Value} {w8 : Option Value} {w9 : Option Value} {w10 : Option Value} {w11 : Option Value} {s0 : Int32} {Z : aj_Z} {I : aj_I} {G : aj_G} {C : Nat × Nat} (h0 : J 31 [some (.ref o0), some (.ref o1), some (.int x2), some (.int s0), some (.int 0), some (.int 0), some (.int 0), w7, w8, w9, w10, w11] [] Z I G C) : J 21 [some (.ref o0), some (.ref o1), some (.int x2), w3, w4, w5, w6, w7, w8, w9, w10, w11] [.int s0] Z I G C := by
  refine s_istore_n hJ d_152_21 (Nat.le_of_ble_eq_true rfl) ?_
  refine s_iconst_0 hJ d_152_22 ?_
  refine s_istore hJ d_152_23 (Nat.le_of_ble_eq_true rfl) ?_
  refine s_iconst_0 hJ d_152_25 ?_
  refine s_istore hJ d_152_26 (Nat.le_of_ble_eq_true rfl) ?_
  refine s_iconst_0 hJ d_152_28 ?_
  refine s_istore hJ d_152_29 (Nat.le_of_ble_eq_true rfl) ?_
  exact h0
set_option maxRecDepth 4000 in
theorem b_152_31 {mc ms : Nat} {X : Option (Nat × (Nat → Int32))} {T : aj_Tt} {Q : aj_Q} {J : aj_J} (hJ : aj_Cl 9 c_152 (none) false mc ms X T Q J) {o0 : Nat} {o1 : Nat} {x2 : Int32} {x3 : Int32} {x4 : Int32} {x5 : Int32} {x6 : Int32} {w7 : Option Value} {w8 : Option Value} {w9 : Option Value} {w10 : Option Value} {w11 : Option Value} {Z : aj_Z} {I : aj_I} {G : aj_G} {C : Nat × Nat} (h0 : x3 ≤ x6 → Q none Z I G) (h1 : ¬ x3 ≤ x6 → x2 ≤ (x4 + 1) → J 66 [some (.ref o0), some (.ref o1), some (.int x2), some (.int x3), some (.int x4), some (.int x5), some (.int x6), w7, w8, w9, w10, w11] [] Z I G C) (k0 : Z.2.1 o1 = some (.inl 7)) (h2 : ¬ x3 ≤ x6 → ¬ x2 ≤ (x4 + 1) → T 0 0 123 [.ref o1, .int (x4 + 1), .int 0] Z I G (fun r Z1 I1 G1 => J 54 [some (.ref o0), some (.ref o1), some (.int x2), some (.int x3), some (.int x4), some (.int x5), some (.int x6), w7, w8, w9, w10, w11] (r.toList ++ []) Z1 I1 G1 C)) : J 31 [some (.ref o0), some (.ref o1), some (.int x2), some (.int x3), some (.int x4), some (.int x5), some (.int x6), w7, w8, w9, w10, w11] [] Z I G C := by
  refine s_iload hJ d_152_31 rfl ?_
  refine s_iload_n hJ d_152_33 rfl ?_
  refine s_icmp_ge (tgt := 147) hJ d_152_34 rfl (fun c0 => ?_) (fun c0 => ?_)
  · skip
    exact s_vret hJ d_152_147 rfl (h0 c0)
  · skip
    refine s_iload hJ d_152_37 rfl ?_
    refine s_iconst_1 hJ d_152_39 ?_
    refine s_iadd hJ d_152_40 ?_
    refine s_iload_n hJ d_152_41 rfl ?_
    refine s_icmp_ge (tgt := 66) hJ d_152_42 rfl (fun c1 => ?_) (fun c1 => ?_)
    · skip
      exact h1 c0 c1
    · skip
      refine s_aload_n hJ d_152_45 rfl ?_
      refine s_iload hJ d_152_46 rfl ?_
      refine s_iconst_1 hJ d_152_48 ?_
      refine s_iadd hJ d_152_49 ?_
      refine s_iconst_0 hJ d_152_50 ?_
      exact s_V2 hJ lm_9_73 d_152_51 (Nat.le_of_ble_eq_true rfl) k0 (h2 c0 c1)
set_option maxRecDepth 4000 in
theorem b_152_54 {mc ms : Nat} {X : Option (Nat × (Nat → Int32))} {T : aj_Tt} {Q : aj_Q} {J : aj_J} (hJ : aj_Cl 9 c_152 (none) false mc ms X T Q J) {o0 : Nat} {o1 : Nat} {x2 : Int32} {x3 : Int32} {x4 : Int32} {x5 : Int32} {x6 : Int32} {w7 : Option Value} {w8 : Option Value} {w9 : Option Value} {w10 : Option Value} {w11 : Option Value} {s0 : Int64} {Z : aj_Z} {I : aj_I} {G : aj_G} {C : Nat × Nat} (h0 : ¬ s0 = (Int32.toInt64 (x6 + 1)) → J 66 [some (.ref o0), some (.ref o1), some (.int x2), some (.int x3), some (.int x4), some (.int x5), some (.int x6), w7, w8, w9, w10, w11] [] Z I G C) (h1 : s0 = (Int32.toInt64 (x6 + 1)) → J 66 [some (.ref o0), some (.ref o1), some (.int x2), some (.int x3), some (.int (x4 + 1)), some (.int x5), some (.int x6), w7, w8, w9, w10, w11] [] Z I G C) : J 54 [some (.ref o0), some (.ref o1), some (.int x2), some (.int x3), some (.int x4), some (.int x5), some (.int x6), w7, w8, w9, w10, w11] [.long s0] Z I G C := by
  refine s_iload hJ d_152_54 rfl ?_
  refine s_iconst_1 hJ d_152_56 ?_
  refine s_iadd hJ d_152_57 ?_
  refine s_i2l hJ d_152_58 ?_
  refine s_lif_ne (tgt := 66) hJ d_152_59 d_152_60 rfl (fun c0 => ?_) (fun c0 => ?_)
  · skip
    exact h0 c0
  · skip
    refine s_iinc (v := 1) hJ d_152_63 rfl (by decide) ?_
    exact h1 c0
set_option maxRecDepth 4000 in
theorem b_152_66 {mc ms : Nat} {X : Option (Nat × (Nat → Int32))} {T : aj_Tt} {Q : aj_Q} {J : aj_J} (hJ : aj_Cl 9 c_152 (none) false mc ms X T Q J) {o0 : Nat} {o1 : Nat} {x2 : Int32} {x3 : Int32} {x4 : Int32} {x5 : Int32} {x6 : Int32} {w7 : Option Value} {w8 : Option Value} {w9 : Option Value} {w10 : Option Value} {w11 : Option Value} {q0 : Nat} {nk1 : Nat} {q1 : Nat} {Z : aj_Z} {I : aj_I} {G : aj_G} {C : Nat × Nat} (k0 : Z.2.1 o0 = some (.inl 9)) (r0 : Z.2.2 o0 0 = .ref q0) (k1 : Z.2.1 q0 = some (.inr (6, nk1))) (h0 : vp_in 3 nk1) (h1 : Z.2.2 q0 (Int32.toNatClampNeg 3) = .ref q1) (k3 : Z.2.1 q1 = some (.inl 7)) (h2 : T 0 0 123 [.ref q1, .int x6, .int 0] Z I G (fun r Z1 I1 G1 => J 78 [some (.ref o0), some (.ref o1), some (.int x2), some (.int x3), some (.int x4), some (.int x5), some (.int x6), w7, w8, w9, w10, w11] (r.toList ++ []) Z1 I1 G1 C)) : J 66 [some (.ref o0), some (.ref o1), some (.int x2), some (.int x3), some (.int x4), some (.int x5), some (.int x6), w7, w8, w9, w10, w11] [] Z I G C := by
  refine s_aload_n hJ d_152_66 rfl ?_
  refine s_getr hJ lf_9_11 rfl d_152_67 k0 r0 ?_
  refine s_iconst_3 hJ d_152_70 ?_
  refine s_aald hJ d_152_71 k1 tc_6 (h0) (h1) ?_
  refine s_iload hJ d_152_72 rfl ?_
  refine s_iconst_0 hJ d_152_74 ?_
  exact s_V2 hJ lm_9_73 d_152_75 (Nat.le_of_ble_eq_true rfl) k3 (h2)
set_option maxRecDepth 4000 in
theorem b_152_78 {mc ms : Nat} {X : Option (Nat × (Nat → Int32))} {T : aj_Tt} {Q : aj_Q} {J : aj_J} (hJ : aj_Cl 9 c_152 (none) false mc ms X T Q J) {o0 : Nat} {o1 : Nat} {x2 : Int32} {x3 : Int32} {x4 : Int32} {x5 : Int32} {x6 : Int32} {w7 : Option Value} {w8 : Option Value} {w9 : Option Value} {w10 : Option Value} {w11 : Option Value} {s0 : Int64} {Z : aj_Z} {I : aj_I} {G : aj_G} {C : Nat × Nat} (k0 : Z.2.1 o1 = some (.inl 7)) (h0 : T 0 0 123 [.ref o1, .int x4, .int 1] Z I G (fun r Z1 I1 G1 => J 87 [some (.ref o0), some (.ref o1), some (.int x2), some (.int x3), some (.int x4), some (.int x5), some (.int x6), some (.long s0), none, w9, w10, w11] (r.toList ++ []) Z1 I1 G1 C)) : J 78 [some (.ref o0), some (.ref o1), some (.int x2), some (.int x3), some (.int x4), some (.int x5), some (.int x6), w7, w8, w9, w10, w11] [.long s0] Z I G C := by
  refine s_lstore hJ d_152_78 (Nat.le_of_ble_eq_true rfl) ?_
  refine s_aload_n hJ d_152_80 rfl ?_
  refine s_iload hJ d_152_81 rfl ?_
  refine s_iconst_1 hJ d_152_83 ?_
  exact s_V2 hJ lm_9_73 d_152_84 (Nat.le_of_ble_eq_true rfl) k0 (h0)
set_option maxRecDepth 4000 in
theorem b_152_87 {mc ms : Nat} {X : Option (Nat × (Nat → Int32))} {T : aj_Tt} {Q : aj_Q} {J : aj_J} (hJ : aj_Cl 9 c_152 (none) false mc ms X T Q J) {o0 : Nat} {o1 : Nat} {x2 : Int32} {x3 : Int32} {x4 : Int32} {x5 : Int32} {x6 : Int32} {x7 : Int64} {w8 : Option Value} {w9 : Option Value} {w10 : Option Value} {w11 : Option Value} {s0 : Int64} {Z : aj_Z} {I : aj_I} {G : aj_G} {C : Nat × Nat} (h0 : J 92 [some (.ref o0), some (.ref o1), some (.int x2), some (.int x3), some (.int x4), some (.int x5), some (.int x6), some (.long x7), (aj_clr w8), some (.long s0), none, some (.int 0)] [] Z I G C) : J 87 [some (.ref o0), some (.ref o1), some (.int x2), some (.int x3), some (.int x4), some (.int x5), some (.int x6), some (.long x7), w8, w9, w10, w11] [.long s0] Z I G C := by
  refine s_lstore hJ d_152_87 (Nat.le_of_ble_eq_true rfl) ?_
  refine s_iconst_0 hJ d_152_89 ?_
  refine s_istore hJ d_152_90 (Nat.le_of_ble_eq_true rfl) ?_
  exact h0
set_option maxRecDepth 4000 in
theorem b_152_92 {mc ms : Nat} {X : Option (Nat × (Nat → Int32))} {T : aj_Tt} {Q : aj_Q} {J : aj_J} (hJ : aj_Cl 9 c_152 (none) false mc ms X T Q J) {o0 : Nat} {o1 : Nat} {x2 : Int32} {x3 : Int32} {x4 : Int32} {x5 : Int32} {x6 : Int32} {x7 : Int64} {w8 : Option Value} {x9 : Int64} {w10 : Option Value} {x11 : Int32} {q0 : Nat} {nk1 : Nat} {q1 : Nat} {nk3 : Nat} {Z : aj_Z} {I : aj_I} {G : aj_G} {C : Nat × Nat} (h0 : x9 ≤ (Int32.toInt64 x11) → J 31 [some (.ref o0), some (.ref o1), some (.int x2), some (.int x3), some (.int x4), some (.int x5), some (.int (x6 + 1)), some (.long x7), w8, some (.long x9), w10, some (.int x11)] [] Z I G C) (k0 : Z.2.1 o0 = some (.inl 9)) (h1 : ¬ x9 ≤ (Int32.toInt64 x11) → (I o0 4) ≤ x5 → J 31 [some (.ref o0), some (.ref o1), some (.int x2), some (.int x3), some (.int x4), some (.int x5), some (.int (x6 + 1)), some (.long x7), w8, some (.long x9), w10, some (.int x11)] [] Z I G C) (r0 : Z.2.2 o0 3 = .ref q0) (k1 : Z.2.1 q0 = some (.inr (1, nk1))) (h2 : ¬ x9 ≤ (Int32.toInt64 x11) → ¬ (I o0 4) ≤ x5 → vp_in x5 nk1) (r1 : Z.2.2 o0 2 = .ref q1) (k3 : Z.2.1 q1 = some (.inr (0, nk3))) (h3 : ¬ x9 ≤ (Int32.toInt64 x11) → ¬ (I o0 4) ≤ x5 → vp_in x5 nk3) (h4 : ¬ x9 ≤ (Int32.toInt64 x11) → ¬ (I o0 4) ≤ x5 → J 92 [some (.ref o0), some (.ref o1), some (.int x2), some (.int x3), some (.int x4), some (.int (x5 + 1)), some (.int x6), some (.long (x7 + (Int32.toInt64 (I q1 (Int32.toNatClampNeg x5))))), none, some (.long x9), (aj_clr w10), some (.int (x11 + 1))] [] Z I (aj_u2 G q0 (Int32.toNatClampNeg x5) x7) C) : J 92 [some (.ref o0), some (.ref o1), some (.int x2), some (.int x3), some (.int x4), some (.int x5), some (.int x6), some (.long x7), w8, some (.long x9), w10, some (.int x11)] [] Z I G C := by
  refine s_iload hJ d_152_92 rfl ?_
  refine s_i2l hJ d_152_94 ?_
  refine s_lload hJ d_152_95 rfl ?_
  refine s_lif_ge (tgt := 141) hJ d_152_97 d_152_98 rfl (fun c0 => ?_) (fun c0 => ?_)
  · skip
    refine s_iinc (v := 1) hJ d_152_141 rfl (by decide) ?_
    refine s_goto (tgt := 31) hJ d_152_144 rfl ?_
    exact h0 c0
  · skip
    refine s_iload hJ d_152_101 rfl ?_
    refine s_aload_n hJ d_152_103 rfl ?_
    refine s_geti hJ lf_9_28 rfl d_152_104 k0 ?_
    refine s_icmp_ge (tgt := 141) hJ d_152_107 rfl (fun c1 => ?_) (fun c1 => ?_)
    · skip
      refine s_iinc (v := 1) hJ d_152_141 rfl (by decide) ?_
      refine s_goto (tgt := 31) hJ d_152_144 rfl ?_
      exact h1 c0 c1
    · skip
      refine s_aload_n hJ d_152_110 rfl ?_
      refine s_getr hJ lf_9_24 rfl d_152_111 k0 r0 ?_
      refine s_iload hJ d_152_114 rfl ?_
      refine s_lload hJ d_152_116 rfl ?_
      refine s_last hJ d_152_118 k1 (h2 c0 c1) ?_
      refine s_lload hJ d_152_119 rfl ?_
      refine s_aload_n hJ d_152_121 rfl ?_
      refine s_getr hJ lf_9_21 rfl d_152_122 k0 r1 ?_
      refine s_iload hJ d_152_125 rfl ?_
      refine s_iald hJ d_152_127 k3 (h3 c0 c1) ?_
      refine s_i2l hJ d_152_128 ?_
      refine s_ladd hJ d_152_129 ?_
      refine s_lstore hJ d_152_130 (Nat.le_of_ble_eq_true rfl) ?_
      refine s_iinc (v := 1) hJ d_152_132 rfl (by decide) ?_
      refine s_iinc (v := 1) hJ d_152_135 rfl (by decide) ?_
      refine s_goto (tgt := 92) hJ d_152_138 rfl ?_
      exact h4 c0 c1
-- ReelOfBoxes$TrackBoxes.samplesLieIn(II)Z : method 153
theorem d_153_0 : decode c_153 0 = .ok (.iconst (0), 1) := by decide +kernel
theorem d_153_1 : decode c_153 1 = .ok (.istore_n 3, 1) := by decide +kernel
theorem d_153_2 : decode c_153 2 = .ok (.iload_n 3, 1) := by decide +kernel
theorem d_153_3 : decode c_153 3 = .ok (.aload_n 0, 1) := by decide +kernel
theorem d_153_4 : decode c_153 4 = .ok (.getfield 28, 3) := by decide +kernel
theorem d_153_7 : decode c_153 7 = .ok (.if_icmp .ge (52), 3) := by decide +kernel
theorem d_153_10 : decode c_153 10 = .ok (.aload_n 0, 1) := by decide +kernel
theorem d_153_11 : decode c_153 11 = .ok (.getfield 21, 3) := by decide +kernel
theorem d_153_14 : decode c_153 14 = .ok (.iload_n 3, 1) := by decide +kernel
theorem d_153_15 : decode c_153 15 = .ok (.iaload, 1) := by decide +kernel
theorem d_153_16 : decode c_153 16 = .ok (.ifCond .le (37), 3) := by decide +kernel
theorem d_153_19 : decode c_153 19 = .ok (.aload_n 0, 1) := by decide +kernel
theorem d_153_20 : decode c_153 20 = .ok (.getfield 24, 3) := by decide +kernel
theorem d_153_23 : decode c_153 23 = .ok (.iload_n 3, 1) := by decide +kernel
theorem d_153_24 : decode c_153 24 = .ok (.laload, 1) := by decide +kernel
theorem d_153_25 : decode c_153 25 = .ok (.iload_n 1, 1) := by decide +kernel
theorem d_153_26 : decode c_153 26 = .ok (.i2l, 1) := by decide +kernel
theorem d_153_27 : decode c_153 27 = .ok (.lcmp, 1) := by decide +kernel
theorem d_153_28 : decode c_153 28 = .ok (.ifCond .lt (23), 3) := by decide +kernel
theorem d_153_31 : decode c_153 31 = .ok (.aload_n 0, 1) := by decide +kernel
theorem d_153_32 : decode c_153 32 = .ok (.getfield 24, 3) := by decide +kernel
theorem d_153_35 : decode c_153 35 = .ok (.iload_n 3, 1) := by decide +kernel
theorem d_153_36 : decode c_153 36 = .ok (.laload, 1) := by decide +kernel
theorem d_153_37 : decode c_153 37 = .ok (.aload_n 0, 1) := by decide +kernel
theorem d_153_38 : decode c_153 38 = .ok (.getfield 21, 3) := by decide +kernel
theorem d_153_41 : decode c_153 41 = .ok (.iload_n 3, 1) := by decide +kernel
theorem d_153_42 : decode c_153 42 = .ok (.iaload, 1) := by decide +kernel
theorem d_153_43 : decode c_153 43 = .ok (.i2l, 1) := by decide +kernel
theorem d_153_44 : decode c_153 44 = .ok (.ladd, 1) := by decide +kernel
theorem d_153_45 : decode c_153 45 = .ok (.iload_n 2, 1) := by decide +kernel
theorem d_153_46 : decode c_153 46 = .ok (.i2l, 1) := by decide +kernel
theorem d_153_47 : decode c_153 47 = .ok (.lcmp, 1) := by decide +kernel
theorem d_153_48 : decode c_153 48 = .ok (.ifCond .le (5), 3) := by decide +kernel
theorem d_153_51 : decode c_153 51 = .ok (.iconst (0), 1) := by decide +kernel
theorem d_153_52 : decode c_153 52 = .ok (.ireturn, 1) := by decide +kernel
theorem d_153_53 : decode c_153 53 = .ok (.iinc 3 (1), 3) := by decide +kernel
theorem d_153_56 : decode c_153 56 = .ok (.goto (-54), 3) := by decide +kernel
theorem d_153_59 : decode c_153 59 = .ok (.iconst (1), 1) := by decide +kernel
theorem d_153_60 : decode c_153 60 = .ok (.ireturn, 1) := by decide +kernel
set_option maxRecDepth 4000 in
theorem b_153_0 {mc ms : Nat} {X : Option (Nat × (Nat → Int32))} {T : aj_Tt} {Q : aj_Q} {J : aj_J} (hJ : aj_Cl 9 c_153 (some .boolean) false mc ms X T Q J) {o0 : Nat} {x1 : Int32} {x2 : Int32} {Z : aj_Z} {I : aj_I} {G : aj_G} {C : Nat × Nat} (h0 : J 2 [some (.ref o0), some (.int x1), some (.int x2), some (.int 0)] [] Z I G C) : J 0 [some (.ref o0), some (.int x1), some (.int x2), none] [] Z I G C := by
  refine s_iconst_0 hJ d_153_0 ?_
  refine s_istore_n hJ d_153_1 (Nat.le_of_ble_eq_true rfl) ?_
  exact h0
set_option maxRecDepth 4000 in
theorem b_153_2 {mc ms : Nat} {X : Option (Nat × (Nat → Int32))} {T : aj_Tt} {Q : aj_Q} {J : aj_J} (hJ : aj_Cl 9 c_153 (some .boolean) false mc ms X T Q J) {o0 : Nat} {x1 : Int32} {x2 : Int32} {x3 : Int32} {q0 : Nat} {nk1 : Nat} {q1 : Nat} {nk3 : Nat} {Z : aj_Z} {I : aj_I} {G : aj_G} {C : Nat × Nat} (k0 : Z.2.1 o0 = some (.inl 9)) (h0 : (I o0 4) ≤ x3 → Q (some (.int 1)) Z I G) (r0 : Z.2.2 o0 2 = .ref q0) (k1 : Z.2.1 q0 = some (.inr (0, nk1))) (h1 : ¬ (I o0 4) ≤ x3 → vp_in x3 nk1) (h2 : ¬ (I o0 4) ≤ x3 → (I q0 (Int32.toNatClampNeg x3)) ≤ 0 → J 2 [some (.ref o0), some (.int x1), some (.int x2), some (.int (x3 + 1))] [] Z I G C) (r1 : Z.2.2 o0 3 = .ref q1) (k3 : Z.2.1 q1 = some (.inr (1, nk3))) (h3 : ¬ (I o0 4) ≤ x3 → ¬ (I q0 (Int32.toNatClampNeg x3)) ≤ 0 → vp_in x3 nk3) (h4 : ¬ (I o0 4) ≤ x3 → ¬ (I q0 (Int32.toNatClampNeg x3)) ≤ 0 → (G q1 (Int32.toNatClampNeg x3)) < (Int32.toInt64 x1) → Q (some (.int 0)) Z I G) (h5 : ¬ (I o0 4) ≤ x3 → ¬ (I q0 (Int32.toNatClampNeg x3)) ≤ 0 → ¬ (G q1 (Int32.toNatClampNeg x3)) < (Int32.toInt64 x1) → vp_in x3 nk3) (h6 : ¬ (I o0 4) ≤ x3 → ¬ (I q0 (Int32.toNatClampNeg x3)) ≤ 0 → ¬ (G q1 (Int32.toNatClampNeg x3)) < (Int32.toInt64 x1) → vp_in x3 nk1) (h7 : ¬ (I o0 4) ≤ x3 → ¬ (I q0 (Int32.toNatClampNeg x3)) ≤ 0 → ¬ (G q1 (Int32.toNatClampNeg x3)) < (Int32.toInt64 x1) → ((G q1 (Int32.toNatClampNeg x3)) + (Int32.toInt64 (I q0 (Int32.toNatClampNeg x3)))) ≤ (Int32.toInt64 x2) → J 2 [some (.ref o0), some (.int x1), some (.int x2), some (.int (x3 + 1))] [] Z I G C) (h8 : ¬ (I o0 4) ≤ x3 → ¬ (I q0 (Int32.toNatClampNeg x3)) ≤ 0 → ¬ (G q1 (Int32.toNatClampNeg x3)) < (Int32.toInt64 x1) → ¬ ((G q1 (Int32.toNatClampNeg x3)) + (Int32.toInt64 (I q0 (Int32.toNatClampNeg x3)))) ≤ (Int32.toInt64 x2) → Q (some (.int 0)) Z I G) : J 2 [some (.ref o0), some (.int x1), some (.int x2), some (.int x3)] [] Z I G C := by
  refine s_iload_n hJ d_153_2 rfl ?_
  refine s_aload_n hJ d_153_3 rfl ?_
  refine s_geti hJ lf_9_28 rfl d_153_4 k0 ?_
  refine s_icmp_ge (tgt := 59) hJ d_153_7 rfl (fun c0 => ?_) (fun c0 => ?_)
  · skip
    refine s_iconst_1 hJ d_153_59 ?_
    exact s_iret hJ d_153_60 rfl rfl (h0 c0)
  · skip
    refine s_aload_n hJ d_153_10 rfl ?_
    refine s_getr hJ lf_9_21 rfl d_153_11 k0 r0 ?_
    refine s_iload_n hJ d_153_14 rfl ?_
    refine s_iald hJ d_153_15 k1 (h1 c0) ?_
    refine s_if_le (tgt := 53) hJ d_153_16 rfl (fun c1 => ?_) (fun c1 => ?_)
    · skip
      refine s_iinc (v := 1) hJ d_153_53 rfl (by decide) ?_
      refine s_goto (tgt := 2) hJ d_153_56 rfl ?_
      exact h2 c0 c1
    · skip
      refine s_aload_n hJ d_153_19 rfl ?_
      refine s_getr hJ lf_9_24 rfl d_153_20 k0 r1 ?_
      refine s_iload_n hJ d_153_23 rfl ?_
      refine s_lald hJ d_153_24 k3 (h3 c0 c1) ?_
      refine s_iload_n hJ d_153_25 rfl ?_
      refine s_i2l hJ d_153_26 ?_
      refine s_lif_lt (tgt := 51) hJ d_153_27 d_153_28 rfl (fun c2 => ?_) (fun c2 => ?_)
      · skip
        refine s_iconst_0 hJ d_153_51 ?_
        exact s_iret hJ d_153_52 rfl rfl (h4 c0 c1 c2)
      · skip
        refine s_aload_n hJ d_153_31 rfl ?_
        refine s_getr hJ lf_9_24 rfl d_153_32 k0 r1 ?_
        refine s_iload_n hJ d_153_35 rfl ?_
        refine s_lald hJ d_153_36 k3 (h5 c0 c1 c2) ?_
        refine s_aload_n hJ d_153_37 rfl ?_
        refine s_getr hJ lf_9_21 rfl d_153_38 k0 r0 ?_
        refine s_iload_n hJ d_153_41 rfl ?_
        refine s_iald hJ d_153_42 k1 (h6 c0 c1 c2) ?_
        refine s_i2l hJ d_153_43 ?_
        refine s_ladd hJ d_153_44 ?_
        refine s_iload_n hJ d_153_45 rfl ?_
        refine s_i2l hJ d_153_46 ?_
        refine s_lif_le (tgt := 53) hJ d_153_47 d_153_48 rfl (fun c3 => ?_) (fun c3 => ?_)
        · skip
          refine s_iinc (v := 1) hJ d_153_53 rfl (by decide) ?_
          refine s_goto (tgt := 2) hJ d_153_56 rfl ?_
          exact h7 c0 c1 c2 c3
        · skip
          refine s_iconst_0 hJ d_153_51 ?_
          exact s_iret hJ d_153_52 rfl rfl (h8 c0 c1 c2 c3)
-- ReelOfBoxes$Finder.<init>(LReelOfBoxes$ByteRow;LReelOfBoxes$Fault;)V : method 91
theorem d_91_0 : decode c_91 0 = .ok (.aload_n 0, 1) := by decide +kernel
theorem d_91_1 : decode c_91 1 = .ok (.invokespecial 3, 3) := by decide +kernel
theorem d_91_4 : decode c_91 4 = .ok (.aload_n 0, 1) := by decide +kernel
theorem d_91_5 : decode c_91 5 = .ok (.iconst (3), 1) := by decide +kernel
theorem d_91_6 : decode c_91 6 = .ok (.anewarray 9, 3) := by decide +kernel
theorem d_91_9 : decode c_91 9 = .ok (.putfield 11, 3) := by decide +kernel
theorem d_91_12 : decode c_91 12 = .ok (.aload_n 0, 1) := by decide +kernel
theorem d_91_13 : decode c_91 13 = .ok (.iconst (4), 1) := by decide +kernel
theorem d_91_14 : decode c_91 14 = .ok (.newarray .int, 2) := by decide +kernel
theorem d_91_16 : decode c_91 16 = .ok (.putfield 17, 3) := by decide +kernel
theorem d_91_19 : decode c_91 19 = .ok (.aload_n 0, 1) := by decide +kernel
theorem d_91_20 : decode c_91 20 = .ok (.iconst (4), 1) := by decide +kernel
theorem d_91_21 : decode c_91 21 = .ok (.newarray .int, 2) := by decide +kernel
theorem d_91_23 : decode c_91 23 = .ok (.putfield 21, 3) := by decide +kernel
theorem d_91_26 : decode c_91 26 = .ok (.aload_n 0, 1) := by decide +kernel
theorem d_91_27 : decode c_91 27 = .ok (.iconst (0), 1) := by decide +kernel
theorem d_91_28 : decode c_91 28 = .ok (.putfield 24, 3) := by decide +kernel
theorem d_91_31 : decode c_91 31 = .ok (.aload_n 0, 1) := by decide +kernel
theorem d_91_32 : decode c_91 32 = .ok (.iconst (0), 1) := by decide +kernel
theorem d_91_33 : decode c_91 33 = .ok (.putfield 28, 3) := by decide +kernel
theorem d_91_36 : decode c_91 36 = .ok (.aload_n 0, 1) := by decide +kernel
theorem d_91_37 : decode c_91 37 = .ok (.iconst (0), 1) := by decide +kernel
theorem d_91_38 : decode c_91 38 = .ok (.putfield 32, 3) := by decide +kernel
theorem d_91_41 : decode c_91 41 = .ok (.aload_n 0, 1) := by decide +kernel
theorem d_91_42 : decode c_91 42 = .ok (.iconst (0), 1) := by decide +kernel
theorem d_91_43 : decode c_91 43 = .ok (.putfield 35, 3) := by decide +kernel
theorem d_91_46 : decode c_91 46 = .ok (.aload_n 0, 1) := by decide +kernel
theorem d_91_47 : decode c_91 47 = .ok (.iconst (0), 1) := by decide +kernel
theorem d_91_48 : decode c_91 48 = .ok (.putfield 38, 3) := by decide +kernel
theorem d_91_51 : decode c_91 51 = .ok (.aload_n 0, 1) := by decide +kernel
theorem d_91_52 : decode c_91 52 = .ok (.iconst (0), 1) := by decide +kernel
theorem d_91_53 : decode c_91 53 = .ok (.putfield 41, 3) := by decide +kernel
theorem d_91_56 : decode c_91 56 = .ok (.aload_n 0, 1) := by decide +kernel
theorem d_91_57 : decode c_91 57 = .ok (.iconst (0), 1) := by decide +kernel
theorem d_91_58 : decode c_91 58 = .ok (.putfield 44, 3) := by decide +kernel
theorem d_91_61 : decode c_91 61 = .ok (.aload_n 0, 1) := by decide +kernel
theorem d_91_62 : decode c_91 62 = .ok (.iconst (0), 1) := by decide +kernel
theorem d_91_63 : decode c_91 63 = .ok (.putfield 47, 3) := by decide +kernel
theorem d_91_66 : decode c_91 66 = .ok (.aload_n 0, 1) := by decide +kernel
theorem d_91_67 : decode c_91 67 = .ok (.iconst (0), 1) := by decide +kernel
theorem d_91_68 : decode c_91 68 = .ok (.putfield 50, 3) := by decide +kernel
theorem d_91_71 : decode c_91 71 = .ok (.aload_n 0, 1) := by decide +kernel
theorem d_91_72 : decode c_91 72 = .ok (.iconst (0), 1) := by decide +kernel
theorem d_91_73 : decode c_91 73 = .ok (.putfield 53, 3) := by decide +kernel
theorem d_91_76 : decode c_91 76 = .ok (.aload_n 0, 1) := by decide +kernel
theorem d_91_77 : decode c_91 77 = .ok (.aload_n 1, 1) := by decide +kernel
theorem d_91_78 : decode c_91 78 = .ok (.putfield 56, 3) := by decide +kernel
theorem d_91_81 : decode c_91 81 = .ok (.aload_n 0, 1) := by decide +kernel
theorem d_91_82 : decode c_91 82 = .ok (.aload_n 2, 1) := by decide +kernel
theorem d_91_83 : decode c_91 83 = .ok (.putfield 60, 3) := by decide +kernel
theorem d_91_86 : decode c_91 86 = .ok (.iconst (0), 1) := by decide +kernel
theorem d_91_87 : decode c_91 87 = .ok (.istore_n 3, 1) := by decide +kernel
theorem d_91_88 : decode c_91 88 = .ok (.iload_n 3, 1) := by decide +kernel
theorem d_91_89 : decode c_91 89 = .ok (.iconst (3), 1) := by decide +kernel
theorem d_91_90 : decode c_91 90 = .ok (.if_icmp .ge (23), 3) := by decide +kernel
theorem d_91_93 : decode c_91 93 = .ok (.aload_n 0, 1) := by decide +kernel
theorem d_91_94 : decode c_91 94 = .ok (.getfield 11, 3) := by decide +kernel
theorem d_91_97 : decode c_91 97 = .ok (.iload_n 3, 1) := by decide +kernel
theorem d_91_98 : decode c_91 98 = .ok (.new 9, 3) := by decide +kernel
theorem d_91_101 : decode c_91 101 = .ok (.dup, 1) := by decide +kernel
theorem d_91_102 : decode c_91 102 = .ok (.aload_n 1, 1) := by decide +kernel
theorem d_91_103 : decode c_91 103 = .ok (.invokespecial 64, 3) := by decide +kernel
theorem d_91_106 : decode c_91 106 = .ok (.aastore, 1) := by decide +kernel
theorem d_91_107 : decode c_91 107 = .ok (.iinc 3 (1), 3) := by decide +kernel
theorem d_91_110 : decode c_91 110 = .ok (.goto (-22), 3) := by decide +kernel
theorem d_91_113 : decode c_91 113 = .ok (.aload_n 0, 1) := by decide +kernel
theorem d_91_114 : decode c_91 114 = .ok (.aload_n 0, 1) := by decide +kernel
theorem d_91_115 : decode c_91 115 = .ok (.getfield 11, 3) := by decide +kernel
theorem d_91_118 : decode c_91 118 = .ok (.iconst (0), 1) := by decide +kernel
theorem d_91_119 : decode c_91 119 = .ok (.aaload, 1) := by decide +kernel
theorem d_91_120 : decode c_91 120 = .ok (.putfield 67, 3) := by decide +kernel
theorem d_91_123 : decode c_91 123 = .ok (.return_, 1) := by decide +kernel
-- ReelOfBoxes$Finder.findAll()Z : method 92
theorem d_92_0 : decode c_92 0 = .ok (.aload_n 0, 1) := by decide +kernel
theorem d_92_1 : decode c_92 1 = .ok (.invokevirtual 71, 3) := by decide +kernel
theorem d_92_4 : decode c_92 4 = .ok (.iconst (0), 1) := by decide +kernel
theorem d_92_5 : decode c_92 5 = .ok (.istore_n 1, 1) := by decide +kernel
theorem d_92_6 : decode c_92 6 = .ok (.iload_n 1, 1) := by decide +kernel
theorem d_92_7 : decode c_92 7 = .ok (.sipush (1200), 3) := by decide +kernel
theorem d_92_10 : decode c_92 10 = .ok (.if_icmp .gt (85), 3) := by decide +kernel
theorem d_92_13 : decode c_92 13 = .ok (.aload_n 0, 1) := by decide +kernel
theorem d_92_14 : decode c_92 14 = .ok (.getfield 44, 3) := by decide +kernel
theorem d_92_17 : decode c_92 17 = .ok (.aload_n 0, 1) := by decide +kernel
theorem d_92_18 : decode c_92 18 = .ok (.getfield 21, 3) := by decide +kernel
theorem d_92_21 : decode c_92 21 = .ok (.aload_n 0, 1) := by decide +kernel
theorem d_92_22 : decode c_92 22 = .ok (.getfield 24, 3) := by decide +kernel
theorem d_92_25 : decode c_92 25 = .ok (.iaload, 1) := by decide +kernel
theorem d_92_26 : decode c_92 26 = .ok (.if_icmp .ge (19), 3) := by decide +kernel
theorem d_92_29 : decode c_92 29 = .ok (.aload_n 0, 1) := by decide +kernel
theorem d_92_30 : decode c_92 30 = .ok (.invokevirtual 74, 3) := by decide +kernel
theorem d_92_33 : decode c_92 33 = .ok (.ifCond .ne (5), 3) := by decide +kernel
theorem d_92_36 : decode c_92 36 = .ok (.iconst (0), 1) := by decide +kernel
theorem d_92_37 : decode c_92 37 = .ok (.ireturn, 1) := by decide +kernel
theorem d_92_38 : decode c_92 38 = .ok (.aload_n 0, 1) := by decide +kernel
theorem d_92_39 : decode c_92 39 = .ok (.invokevirtual 78, 3) := by decide +kernel
theorem d_92_42 : decode c_92 42 = .ok (.goto (47), 3) := by decide +kernel
theorem d_92_45 : decode c_92 45 = .ok (.aload_n 0, 1) := by decide +kernel
theorem d_92_46 : decode c_92 46 = .ok (.invokevirtual 81, 3) := by decide +kernel
theorem d_92_49 : decode c_92 49 = .ok (.ifCond .ne (21), 3) := by decide +kernel
theorem d_92_52 : decode c_92 52 = .ok (.aload_n 0, 1) := by decide +kernel
theorem d_92_53 : decode c_92 53 = .ok (.getfield 60, 3) := by decide +kernel
theorem d_92_56 : decode c_92 56 = .ok (.iconst (3), 1) := by decide +kernel
theorem d_92_57 : decode c_92 57 = .ok (.aload_n 0, 1) := by decide +kernel
theorem d_92_58 : decode c_92 58 = .ok (.getfield 17, 3) := by decide +kernel
theorem d_92_61 : decode c_92 61 = .ok (.aload_n 0, 1) := by decide +kernel
theorem d_92_62 : decode c_92 62 = .ok (.getfield 24, 3) := by decide +kernel
theorem d_92_65 : decode c_92 65 = .ok (.iaload, 1) := by decide +kernel
theorem d_92_66 : decode c_92 66 = .ok (.invokevirtual 84, 3) := by decide +kernel
theorem d_92_69 : decode c_92 69 = .ok (.ireturn, 1) := by decide +kernel
theorem d_92_70 : decode c_92 70 = .ok (.aload_n 0, 1) := by decide +kernel
theorem d_92_71 : decode c_92 71 = .ok (.getfield 24, 3) := by decide +kernel
theorem d_92_74 : decode c_92 74 = .ok (.ifCond .ne (5), 3) := by decide +kernel
theorem d_92_77 : decode c_92 77 = .ok (.iconst (1), 1) := by decide +kernel
theorem d_92_78 : decode c_92 78 = .ok (.ireturn, 1) := by decide +kernel
theorem d_92_79 : decode c_92 79 = .ok (.aload_n 0, 1) := by decide +kernel
theorem d_92_80 : decode c_92 80 = .ok (.dup, 1) := by decide +kernel
theorem d_92_81 : decode c_92 81 = .ok (.getfield 24, 3) := by decide +kernel
theorem d_92_84 : decode c_92 84 = .ok (.iconst (1), 1) := by decide +kernel
theorem d_92_85 : decode c_92 85 = .ok (.isub, 1) := by decide +kernel
theorem d_92_86 : decode c_92 86 = .ok (.putfield 24, 3) := by decide +kernel
theorem d_92_89 : decode c_92 89 = .ok (.iinc 1 (1), 3) := by decide +kernel
theorem d_92_92 : decode c_92 92 = .ok (.goto (-86), 3) := by decide +kernel
theorem d_92_95 : decode c_92 95 = .ok (.aload_n 0, 1) := by decide +kernel
theorem d_92_96 : decode c_92 96 = .ok (.getfield 60, 3) := by decide +kernel
theorem d_92_99 : decode c_92 99 = .ok (.iconst (1), 1) := by decide +kernel
theorem d_92_100 : decode c_92 100 = .ok (.aload_n 0, 1) := by decide +kernel
theorem d_92_101 : decode c_92 101 = .ok (.getfield 44, 3) := by decide +kernel
theorem d_92_104 : decode c_92 104 = .ok (.invokevirtual 84, 3) := by decide +kernel
theorem d_92_107 : decode c_92 107 = .ok (.ireturn, 1) := by decide +kernel
set_option maxRecDepth 4000 in
theorem b_92_0 {mc ms : Nat} {X : Option (Nat × (Nat → Int32))} {T : aj_Tt} {Q : aj_Q} {J : aj_J} (hJ : aj_Cl 4 c_92 (some .boolean) false mc ms X T Q J) {o0 : Nat} {Z : aj_Z} {I : aj_I} {G : aj_G} {C : Nat × Nat} (k0 : Z.2.1 o0 = some (.inl 4)) (h0 : T 0 0 93 [.ref o0] Z I G (fun r Z1 I1 G1 => J 4 [some (.ref o0), none] (r.toList ++ []) Z1 I1 G1 C)) : J 0 [some (.ref o0), none] [] Z I G C := by
  refine s_aload_n hJ d_92_0 rfl ?_
  exact s_V0 hJ lm_4_71 d_92_1 (Nat.le_of_ble_eq_true rfl) k0 (h0)
set_option maxRecDepth 4000 in
theorem b_92_4 {mc ms : Nat} {X : Option (Nat × (Nat → Int32))} {T : aj_Tt} {Q : aj_Q} {J : aj_J} (hJ : aj_Cl 4 c_92 (some .boolean) false mc ms X T Q J) {o0 : Nat} {w1 : Option Value} {Z : aj_Z} {I : aj_I} {G : aj_G} {C : Nat × Nat} (h0 : J 6 [some (.ref o0), some (.int 0)] [] Z I G C) : J 4 [some (.ref o0), w1] [] Z I G C := by
  refine s_iconst_0 hJ d_92_4 ?_
  refine s_istore_n hJ d_92_5 (Nat.le_of_ble_eq_true rfl) ?_
  exact h0
set_option maxRecDepth 4000 in
theorem b_92_6 {mc ms : Nat} {X : Option (Nat × (Nat → Int32))} {T : aj_Tt} {Q : aj_Q} {J : aj_J} (hJ : aj_Cl 4 c_92 (some .boolean) false mc ms X T Q J) {o0 : Nat} {x1 : Int32} {q0 : Nat} {q1 : Nat} {nk2 : Nat} {Z : aj_Z} {I : aj_I} {G : aj_G} {C : Nat × Nat} (k0 : Z.2.1 o0 = some (.inl 4)) (r0 : Z.2.2 o0 1 = .ref q0) (k1 : Z.2.1 q0 = some (.inl 3)) (h0 : 1200 < x1 → T 0 0 90 [.ref q0, .int 1, .int (I o0 12)] Z I G (fun r Z1 I1 G1 => J 107 [some (.ref o0), some (.int x1)] (r.toList ++ []) Z1 I1 G1 C)) (r1 : Z.2.2 o0 4 = .ref q1) (k2 : Z.2.1 q1 = some (.inr (0, nk2))) (h1 : ¬ 1200 < x1 → vp_in (I o0 5) nk2) (h2 : ¬ 1200 < x1 → (I q1 (Int32.toNatClampNeg (I o0 5))) ≤ (I o0 12) → T 0 0 101 [.ref o0] Z I G (fun r Z1 I1 G1 => J 49 [some (.ref o0), some (.int x1)] (r.toList ++ []) Z1 I1 G1 C)) (h3 : ¬ 1200 < x1 → ¬ (I q1 (Int32.toNatClampNeg (I o0 5))) ≤ (I o0 12) → T 0 0 94 [.ref o0] Z I G (fun r Z1 I1 G1 => J 33 [some (.ref o0), some (.int x1)] (r.toList ++ []) Z1 I1 G1 C)) : J 6 [some (.ref o0), some (.int x1)] [] Z I G C := by
  refine s_iload_n hJ d_92_6 rfl ?_
  refine s_sipush (v := 1200) hJ d_92_7 (by decide) ?_
  refine s_icmp_gt (tgt := 95) hJ d_92_10 rfl (fun c0 => ?_) (fun c0 => ?_)
  · skip
    refine s_aload_n hJ d_92_95 rfl ?_
    refine s_getr hJ lf_4_60 rfl d_92_96 k0 r0 ?_
    refine s_iconst_1 hJ d_92_99 ?_
    refine s_aload_n hJ d_92_100 rfl ?_
    refine s_geti hJ lf_4_44 rfl d_92_101 k0 ?_
    exact s_V2 hJ lm_4_84 d_92_104 (Nat.le_of_ble_eq_true rfl) k1 (h0 c0)
  · skip
    refine s_aload_n hJ d_92_13 rfl ?_
    refine s_geti hJ lf_4_44 rfl d_92_14 k0 ?_
    refine s_aload_n hJ d_92_17 rfl ?_
    refine s_getr hJ lf_4_21 rfl d_92_18 k0 r1 ?_
    refine s_aload_n hJ d_92_21 rfl ?_
    refine s_geti hJ lf_4_24 rfl d_92_22 k0 ?_
    refine s_iald hJ d_92_25 k2 (h1 c0) ?_
    refine s_icmp_ge (tgt := 45) hJ d_92_26 rfl (fun c1 => ?_) (fun c1 => ?_)
    · skip
      refine s_aload_n hJ d_92_45 rfl ?_
      exact s_V0 hJ lm_4_81 d_92_46 (Nat.le_of_ble_eq_true rfl) k0 (h2 c0 c1)
    · skip
      refine s_aload_n hJ d_92_29 rfl ?_
      exact s_V0 hJ lm_4_74 d_92_30 (Nat.le_of_ble_eq_true rfl) k0 (h3 c0 c1)
set_option maxRecDepth 4000 in
theorem b_92_33 {mc ms : Nat} {X : Option (Nat × (Nat → Int32))} {T : aj_Tt} {Q : aj_Q} {J : aj_J} (hJ : aj_Cl 4 c_92 (some .boolean) false mc ms X T Q J) {o0 : Nat} {x1 : Int32} {s0 : Int32} {Z : aj_Z} {I : aj_I} {G : aj_G} {C : Nat × Nat} (k0 : Z.2.1 o0 = some (.inl 4)) (h0 : ¬ s0 = 0 → T 0 0 100 [.ref o0] Z I G (fun r Z1 I1 G1 => J 42 [some (.ref o0), some (.int x1)] (r.toList ++ []) Z1 I1 G1 C)) (h1 : s0 = 0 → Q (some (.int 0)) Z I G) : J 33 [some (.ref o0), some (.int x1)] [.int s0] Z I G C := by
  refine s_if_ne (tgt := 38) hJ d_92_33 rfl (fun c0 => ?_) (fun c0 => ?_)
  · skip
    refine s_aload_n hJ d_92_38 rfl ?_
    exact s_V0 hJ lm_4_78 d_92_39 (Nat.le_of_ble_eq_true rfl) k0 (h0 c0)
  · skip
    refine s_iconst_0 hJ d_92_36 ?_
    exact s_iret hJ d_92_37 rfl rfl (h1 c0)
set_option maxRecDepth 4000 in
theorem b_92_42 {mc ms : Nat} {X : Option (Nat × (Nat → Int32))} {T : aj_Tt} {Q : aj_Q} {J : aj_J} (hJ : aj_Cl 4 c_92 (some .boolean) false mc ms X T Q J) {o0 : Nat} {x1 : Int32} {Z : aj_Z} {I : aj_I} {G : aj_G} {C : Nat × Nat} (h0 : J 6 [some (.ref o0), some (.int (x1 + 1))] [] Z I G C) : J 42 [some (.ref o0), some (.int x1)] [] Z I G C := by
  refine s_goto (tgt := 89) hJ d_92_42 rfl ?_
  refine s_iinc (v := 1) hJ d_92_89 rfl (by decide) ?_
  refine s_goto (tgt := 6) hJ d_92_92 rfl ?_
  exact h0
set_option maxRecDepth 4000 in
theorem b_92_49 {mc ms : Nat} {X : Option (Nat × (Nat → Int32))} {T : aj_Tt} {Q : aj_Q} {J : aj_J} (hJ : aj_Cl 4 c_92 (some .boolean) false mc ms X T Q J) {o0 : Nat} {x1 : Int32} {s0 : Int32} {q0 : Nat} {q1 : Nat} {nk1 : Nat} {Z : aj_Z} {I : aj_I} {G : aj_G} {C : Nat × Nat} (k0 : Z.2.1 o0 = some (.inl 4)) (h0 : ¬ s0 = 0 → ¬ (I o0 5) = 0 → J 6 [some (.ref o0), some (.int (x1 + 1))] [] Z (aj_u2 I o0 5 ((I o0 5) - 1)) G C) (h1 : ¬ s0 = 0 → (I o0 5) = 0 → Q (some (.int 1)) Z I G) (r0 : Z.2.2 o0 1 = .ref q0) (r1 : Z.2.2 o0 3 = .ref q1) (k1 : Z.2.1 q1 = some (.inr (0, nk1))) (h2 : s0 = 0 → vp_in (I o0 5) nk1) (k3 : Z.2.1 q0 = some (.inl 3)) (h3 : s0 = 0 → T 0 0 90 [.ref q0, .int 3, .int (I q1 (Int32.toNatClampNeg (I o0 5)))] Z I G (fun r Z1 I1 G1 => J 69 [some (.ref o0), some (.int x1)] (r.toList ++ []) Z1 I1 G1 C)) : J 49 [some (.ref o0), some (.int x1)] [.int s0] Z I G C := by
  refine s_if_ne (tgt := 70) hJ d_92_49 rfl (fun c0 => ?_) (fun c0 => ?_)
  · skip
    refine s_aload_n hJ d_92_70 rfl ?_
    refine s_geti hJ lf_4_24 rfl d_92_71 k0 ?_
    refine s_if_ne (tgt := 79) hJ d_92_74 rfl (fun c1 => ?_) (fun c1 => ?_)
    · skip
      refine s_aload_n hJ d_92_79 rfl ?_
      refine s_dup hJ d_92_80 rfl ?_
      refine s_geti hJ lf_4_24 rfl d_92_81 k0 ?_
      refine s_iconst_1 hJ d_92_84 ?_
      refine s_isub hJ d_92_85 ?_
      refine s_puti hJ lf_4_24 rfl d_92_86 k0 ?_
      refine s_iinc (v := 1) hJ d_92_89 rfl (by decide) ?_
      refine s_goto (tgt := 6) hJ d_92_92 rfl ?_
      exact h0 c0 c1
    · skip
      refine s_iconst_1 hJ d_92_77 ?_
      exact s_iret hJ d_92_78 rfl rfl (h1 c0 c1)
  · skip
    refine s_aload_n hJ d_92_52 rfl ?_
    refine s_getr hJ lf_4_60 rfl d_92_53 k0 r0 ?_
    refine s_iconst_3 hJ d_92_56 ?_
    refine s_aload_n hJ d_92_57 rfl ?_
    refine s_getr hJ lf_4_17 rfl d_92_58 k0 r1 ?_
    refine s_aload_n hJ d_92_61 rfl ?_
    refine s_geti hJ lf_4_24 rfl d_92_62 k0 ?_
    refine s_iald hJ d_92_65 k1 (h2 c0) ?_
    exact s_V2 hJ lm_4_84 d_92_66 (Nat.le_of_ble_eq_true rfl) k3 (h3 c0)
set_option maxRecDepth 4000 in
theorem b_92_69 {mc ms : Nat} {X : Option (Nat × (Nat → Int32))} {T : aj_Tt} {Q : aj_Q} {J : aj_J} (hJ : aj_Cl 4 c_92 (some .boolean) false mc ms X T Q J) {w0 : Option Value} {w1 : Option Value} {s0 : Int32} {Z : aj_Z} {I : aj_I} {G : aj_G} {C : Nat × Nat} (h0 : narrow .boolean (.int s0) = .int s0) (h1 : Q (some (.int s0)) Z I G) : J 69 [w0, w1] [.int s0] Z I G C := by
  exact s_iret hJ d_92_69 rfl (h0) (h1)
set_option maxRecDepth 4000 in
theorem b_92_107 {mc ms : Nat} {X : Option (Nat × (Nat → Int32))} {T : aj_Tt} {Q : aj_Q} {J : aj_J} (hJ : aj_Cl 4 c_92 (some .boolean) false mc ms X T Q J) {w0 : Option Value} {w1 : Option Value} {s0 : Int32} {Z : aj_Z} {I : aj_I} {G : aj_G} {C : Nat × Nat} (h0 : narrow .boolean (.int s0) = .int s0) (h1 : Q (some (.int s0)) Z I G) : J 107 [w0, w1] [.int s0] Z I G C := by
  exact s_iret hJ d_92_107 rfl (h0) (h1)
-- ReelOfBoxes$Finder.begin()V : method 93
theorem d_93_0 : decode c_93 0 = .ok (.aload_n 0, 1) := by decide +kernel
theorem d_93_1 : decode c_93 1 = .ok (.iconst (0), 1) := by decide +kernel
theorem d_93_2 : decode c_93 2 = .ok (.putfield 24, 3) := by decide +kernel
theorem d_93_5 : decode c_93 5 = .ok (.aload_n 0, 1) := by decide +kernel
theorem d_93_6 : decode c_93 6 = .ok (.getfield 17, 3) := by decide +kernel
theorem d_93_9 : decode c_93 9 = .ok (.iconst (0), 1) := by decide +kernel
theorem d_93_10 : decode c_93 10 = .ok (.iconst (0), 1) := by decide +kernel
theorem d_93_11 : decode c_93 11 = .ok (.iastore, 1) := by decide +kernel
theorem d_93_12 : decode c_93 12 = .ok (.aload_n 0, 1) := by decide +kernel
theorem d_93_13 : decode c_93 13 = .ok (.getfield 21, 3) := by decide +kernel
theorem d_93_16 : decode c_93 16 = .ok (.iconst (0), 1) := by decide +kernel
theorem d_93_17 : decode c_93 17 = .ok (.aload_n 0, 1) := by decide +kernel
theorem d_93_18 : decode c_93 18 = .ok (.getfield 56, 3) := by decide +kernel
theorem d_93_21 : decode c_93 21 = .ok (.invokevirtual 90, 3) := by decide +kernel
theorem d_93_24 : decode c_93 24 = .ok (.iastore, 1) := by decide +kernel
theorem d_93_25 : decode c_93 25 = .ok (.aload_n 0, 1) := by decide +kernel
theorem d_93_26 : decode c_93 26 = .ok (.iconst (0), 1) := by decide +kernel
theorem d_93_27 : decode c_93 27 = .ok (.putfield 28, 3) := by decide +kernel
theorem d_93_30 : decode c_93 30 = .ok (.aload_n 0, 1) := by decide +kernel
theorem d_93_31 : decode c_93 31 = .ok (.iconst (0), 1) := by decide +kernel
theorem d_93_32 : decode c_93 32 = .ok (.putfield 32, 3) := by decide +kernel
theorem d_93_35 : decode c_93 35 = .ok (.aload_n 0, 1) := by decide +kernel
theorem d_93_36 : decode c_93 36 = .ok (.iconst (0), 1) := by decide +kernel
theorem d_93_37 : decode c_93 37 = .ok (.putfield 41, 3) := by decide +kernel
theorem d_93_40 : decode c_93 40 = .ok (.aload_n 0, 1) := by decide +kernel
theorem d_93_41 : decode c_93 41 = .ok (.iconst (0), 1) := by decide +kernel
theorem d_93_42 : decode c_93 42 = .ok (.putfield 44, 3) := by decide +kernel
theorem d_93_45 : decode c_93 45 = .ok (.return_, 1) := by decide +kernel
set_option maxRecDepth 4000 in
theorem b_93_0 {mc ms : Nat} {X : Option (Nat × (Nat → Int32))} {T : aj_Tt} {Q : aj_Q} {J : aj_J} (hJ : aj_Cl 4 c_93 (none) false mc ms X T Q J) {o0 : Nat} {q0 : Nat} {nk1 : Nat} {q1 : Nat} {q2 : Nat} {Z : aj_Z} {I : aj_I} {G : aj_G} {C : Nat × Nat} (k0 : Z.2.1 o0 = some (.inl 4)) (r0 : Z.2.2 o0 3 = .ref q0) (k1 : Z.2.1 q0 = some (.inr (0, nk1))) (h0 : vp_in 0 nk1) (r1 : Z.2.2 o0 4 = .ref q1) (r2 : Z.2.2 o0 0 = .ref q2) (k3 : Z.2.1 q2 = some (.inl 2)) (h1 : T 0 0 81 [.ref q2] Z (aj_u2 (aj_u2 I o0 5 0) q0 (Int32.toNatClampNeg 0) 0) G (fun r Z1 I1 G1 => J 24 [some (.ref o0)] (r.toList ++ [.int 0, .ref q1]) Z1 I1 G1 C)) : J 0 [some (.ref o0)] [] Z I G C := by
  refine s_aload_n hJ d_93_0 rfl ?_
  refine s_iconst_0 hJ d_93_1 ?_
  refine s_puti hJ lf_4_24 rfl d_93_2 k0 ?_
  refine s_aload_n hJ d_93_5 rfl ?_
  refine s_getr hJ lf_4_17 rfl d_93_6 k0 r0 ?_
  refine s_iconst_0 hJ d_93_9 ?_
  refine s_iconst_0 hJ d_93_10 ?_
  refine s_iast hJ d_93_11 k1 (h0) ?_
  refine s_aload_n hJ d_93_12 rfl ?_
  refine s_getr hJ lf_4_21 rfl d_93_13 k0 r1 ?_
  refine s_iconst_0 hJ d_93_16 ?_
  refine s_aload_n hJ d_93_17 rfl ?_
  refine s_getr hJ lf_4_56 rfl d_93_18 k0 r2 ?_
  exact s_V0 hJ lm_4_90 d_93_21 (Nat.le_of_ble_eq_true rfl) k3 (h1)
set_option maxRecDepth 4000 in
theorem b_93_24 {mc ms : Nat} {X : Option (Nat × (Nat → Int32))} {T : aj_Tt} {Q : aj_Q} {J : aj_J} (hJ : aj_Cl 4 c_93 (none) false mc ms X T Q J) {o0 : Nat} {s0 : Int32} {s1 : Int32} {s2 : Nat} {nk0 : Nat} {Z : aj_Z} {I : aj_I} {G : aj_G} {C : Nat × Nat} (k0 : Z.2.1 s2 = some (.inr (0, nk0))) (h0 : vp_in s1 nk0) (k2 : Z.2.1 o0 = some (.inl 4)) (h1 : Q none Z (aj_u2 (aj_u2 (aj_u2 (aj_u2 (aj_u2 I s2 (Int32.toNatClampNeg s1) s0) o0 6 0) o0 7 0) o0 10 0) o0 12 0) G) : J 24 [some (.ref o0)] [.int s0, .int s1, .ref s2] Z I G C := by
  refine s_iast hJ d_93_24 k0 (h0) ?_
  refine s_aload_n hJ d_93_25 rfl ?_
  refine s_iconst_0 hJ d_93_26 ?_
  refine s_putz hJ lf_4_28 rfl (by decide) d_93_27 k2 ?_
  refine s_aload_n hJ d_93_30 rfl ?_
  refine s_iconst_0 hJ d_93_31 ?_
  refine s_putz hJ lf_4_32 rfl (by decide) d_93_32 k2 ?_
  refine s_aload_n hJ d_93_35 rfl ?_
  refine s_iconst_0 hJ d_93_36 ?_
  refine s_puti hJ lf_4_41 rfl d_93_37 k2 ?_
  refine s_aload_n hJ d_93_40 rfl ?_
  refine s_iconst_0 hJ d_93_41 ?_
  refine s_puti hJ lf_4_44 rfl d_93_42 k2 ?_
  exact s_vret hJ d_93_45 rfl (h1)
-- ReelOfBoxes$Finder.takeBox()Z : method 94
theorem d_94_0 : decode c_94 0 = .ok (.aload_n 0, 1) := by decide +kernel
theorem d_94_1 : decode c_94 1 = .ok (.aload_n 0, 1) := by decide +kernel
theorem d_94_2 : decode c_94 2 = .ok (.getfield 21, 3) := by decide +kernel
theorem d_94_5 : decode c_94 5 = .ok (.aload_n 0, 1) := by decide +kernel
theorem d_94_6 : decode c_94 6 = .ok (.getfield 24, 3) := by decide +kernel
theorem d_94_9 : decode c_94 9 = .ok (.iaload, 1) := by decide +kernel
theorem d_94_10 : decode c_94 10 = .ok (.aload_n 0, 1) := by decide +kernel
theorem d_94_11 : decode c_94 11 = .ok (.getfield 44, 3) := by decide +kernel
theorem d_94_14 : decode c_94 14 = .ok (.isub, 1) := by decide +kernel
theorem d_94_15 : decode c_94 15 = .ok (.invokevirtual 96, 3) := by decide +kernel
theorem d_94_18 : decode c_94 18 = .ok (.ifCond .ne (16), 3) := by decide +kernel
theorem d_94_21 : decode c_94 21 = .ok (.aload_n 0, 1) := by decide +kernel
theorem d_94_22 : decode c_94 22 = .ok (.getfield 60, 3) := by decide +kernel
theorem d_94_25 : decode c_94 25 = .ok (.iconst (1), 1) := by decide +kernel
theorem d_94_26 : decode c_94 26 = .ok (.aload_n 0, 1) := by decide +kernel
theorem d_94_27 : decode c_94 27 = .ok (.getfield 44, 3) := by decide +kernel
theorem d_94_30 : decode c_94 30 = .ok (.invokevirtual 84, 3) := by decide +kernel
theorem d_94_33 : decode c_94 33 = .ok (.ireturn, 1) := by decide +kernel
theorem d_94_34 : decode c_94 34 = .ok (.aload_n 0, 1) := by decide +kernel
theorem d_94_35 : decode c_94 35 = .ok (.invokevirtual 100, 3) := by decide +kernel
theorem d_94_38 : decode c_94 38 = .ok (.ifCond .ne (18), 3) := by decide +kernel
theorem d_94_41 : decode c_94 41 = .ok (.aload_n 0, 1) := by decide +kernel
theorem d_94_42 : decode c_94 42 = .ok (.getfield 60, 3) := by decide +kernel
theorem d_94_45 : decode c_94 45 = .ok (.iconst (2), 1) := by decide +kernel
theorem d_94_46 : decode c_94 46 = .ok (.aload_n 0, 1) := by decide +kernel
theorem d_94_47 : decode c_94 47 = .ok (.getfield 44, 3) := by decide +kernel
theorem d_94_50 : decode c_94 50 = .ok (.invokevirtual 84, 3) := by decide +kernel
theorem d_94_53 : decode c_94 53 = .ok (.ifCond .eq (7), 3) := by decide +kernel
theorem d_94_56 : decode c_94 56 = .ok (.iconst (1), 1) := by decide +kernel
theorem d_94_57 : decode c_94 57 = .ok (.goto (4), 3) := by decide +kernel
theorem d_94_60 : decode c_94 60 = .ok (.iconst (0), 1) := by decide +kernel
theorem d_94_61 : decode c_94 61 = .ok (.ireturn, 1) := by decide +kernel
set_option maxRecDepth 4000 in
theorem b_94_0 {mc ms : Nat} {X : Option (Nat × (Nat → Int32))} {T : aj_Tt} {Q : aj_Q} {J : aj_J} (hJ : aj_Cl 4 c_94 (some .boolean) false mc ms X T Q J) {o0 : Nat} {q0 : Nat} {nk1 : Nat} {Z : aj_Z} {I : aj_I} {G : aj_G} {C : Nat × Nat} (k0 : Z.2.1 o0 = some (.inl 4)) (r0 : Z.2.2 o0 4 = .ref q0) (k1 : Z.2.1 q0 = some (.inr (0, nk1))) (h0 : vp_in (I o0 5) nk1) (h1 : T 0 0 95 [.ref o0, .int ((I q0 (Int32.toNatClampNeg (I o0 5))) - (I o0 12))] Z I G (fun r Z1 I1 G1 => J 18 [some (.ref o0)] (r.toList ++ []) Z1 I1 G1 C)) : J 0 [some (.ref o0)] [] Z I G C := by
  refine s_aload_n hJ d_94_0 rfl ?_
  refine s_aload_n hJ d_94_1 rfl ?_
  refine s_getr hJ lf_4_21 rfl d_94_2 k0 r0 ?_
  refine s_aload_n hJ d_94_5 rfl ?_
  refine s_geti hJ lf_4_24 rfl d_94_6 k0 ?_
  refine s_iald hJ d_94_9 k1 (h0) ?_
  refine s_aload_n hJ d_94_10 rfl ?_
  refine s_geti hJ lf_4_44 rfl d_94_11 k0 ?_
  refine s_isub hJ d_94_14 ?_
  exact s_V1 hJ lm_4_96 d_94_15 (Nat.le_of_ble_eq_true rfl) k0 (h1)
set_option maxRecDepth 4000 in
theorem b_94_18 {mc ms : Nat} {X : Option (Nat × (Nat → Int32))} {T : aj_Tt} {Q : aj_Q} {J : aj_J} (hJ : aj_Cl 4 c_94 (some .boolean) false mc ms X T Q J) {o0 : Nat} {s0 : Int32} {q0 : Nat} {Z : aj_Z} {I : aj_I} {G : aj_G} {C : Nat × Nat} (k0 : Z.2.1 o0 = some (.inl 4)) (h0 : ¬ s0 = 0 → T 0 0 96 [.ref o0] Z I G (fun r Z1 I1 G1 => J 38 [some (.ref o0)] (r.toList ++ []) Z1 I1 G1 C)) (r0 : Z.2.2 o0 1 = .ref q0) (k1 : Z.2.1 q0 = some (.inl 3)) (h1 : s0 = 0 → T 0 0 90 [.ref q0, .int 1, .int (I o0 12)] Z I G (fun r Z1 I1 G1 => J 33 [some (.ref o0)] (r.toList ++ []) Z1 I1 G1 C)) : J 18 [some (.ref o0)] [.int s0] Z I G C := by
  refine s_if_ne (tgt := 34) hJ d_94_18 rfl (fun c0 => ?_) (fun c0 => ?_)
  · skip
    refine s_aload_n hJ d_94_34 rfl ?_
    exact s_V0 hJ lm_4_100 d_94_35 (Nat.le_of_ble_eq_true rfl) k0 (h0 c0)
  · skip
    refine s_aload_n hJ d_94_21 rfl ?_
    refine s_getr hJ lf_4_60 rfl d_94_22 k0 r0 ?_
    refine s_iconst_1 hJ d_94_25 ?_
    refine s_aload_n hJ d_94_26 rfl ?_
    refine s_geti hJ lf_4_44 rfl d_94_27 k0 ?_
    exact s_V2 hJ lm_4_84 d_94_30 (Nat.le_of_ble_eq_true rfl) k1 (h1 c0)
set_option maxRecDepth 4000 in
theorem b_94_33 {mc ms : Nat} {X : Option (Nat × (Nat → Int32))} {T : aj_Tt} {Q : aj_Q} {J : aj_J} (hJ : aj_Cl 4 c_94 (some .boolean) false mc ms X T Q J) {w0 : Option Value} {s0 : Int32} {Z : aj_Z} {I : aj_I} {G : aj_G} {C : Nat × Nat} (h0 : narrow .boolean (.int s0) = .int s0) (h1 : Q (some (.int s0)) Z I G) : J 33 [w0] [.int s0] Z I G C := by
  exact s_iret hJ d_94_33 rfl (h0) (h1)
set_option maxRecDepth 4000 in
theorem b_94_38 {mc ms : Nat} {X : Option (Nat × (Nat → Int32))} {T : aj_Tt} {Q : aj_Q} {J : aj_J} (hJ : aj_Cl 4 c_94 (some .boolean) false mc ms X T Q J) {o0 : Nat} {s0 : Int32} {q0 : Nat} {Z : aj_Z} {I : aj_I} {G : aj_G} {C : Nat × Nat} (h0 : ¬ s0 = 0 → Q (some (.int 1)) Z I G) (k0 : Z.2.1 o0 = some (.inl 4)) (r0 : Z.2.2 o0 1 = .ref q0) (k1 : Z.2.1 q0 = some (.inl 3)) (h1 : s0 = 0 → T 0 0 90 [.ref q0, .int 2, .int (I o0 12)] Z I G (fun r Z1 I1 G1 => J 53 [some (.ref o0)] (r.toList ++ []) Z1 I1 G1 C)) : J 38 [some (.ref o0)] [.int s0] Z I G C := by
  refine s_if_ne (tgt := 56) hJ d_94_38 rfl (fun c0 => ?_) (fun c0 => ?_)
  · skip
    refine s_iconst_1 hJ d_94_56 ?_
    refine s_goto (tgt := 61) hJ d_94_57 rfl ?_
    exact s_iret hJ d_94_61 rfl rfl (h0 c0)
  · skip
    refine s_aload_n hJ d_94_41 rfl ?_
    refine s_getr hJ lf_4_60 rfl d_94_42 k0 r0 ?_
    refine s_iconst_2 hJ d_94_45 ?_
    refine s_aload_n hJ d_94_46 rfl ?_
    refine s_geti hJ lf_4_44 rfl d_94_47 k0 ?_
    exact s_V2 hJ lm_4_84 d_94_50 (Nat.le_of_ble_eq_true rfl) k1 (h1 c0)
set_option maxRecDepth 4000 in
theorem b_94_53 {mc ms : Nat} {X : Option (Nat × (Nat → Int32))} {T : aj_Tt} {Q : aj_Q} {J : aj_J} (hJ : aj_Cl 4 c_94 (some .boolean) false mc ms X T Q J) {w0 : Option Value} {s0 : Int32} {Z : aj_Z} {I : aj_I} {G : aj_G} {C : Nat × Nat} (h0 : s0 = 0 → Q (some (.int 0)) Z I G) (h1 : ¬ s0 = 0 → Q (some (.int 1)) Z I G) : J 53 [w0] [.int s0] Z I G C := by
  refine s_if_eq (tgt := 60) hJ d_94_53 rfl (fun c0 => ?_) (fun c0 => ?_)
  · skip
    refine s_iconst_0 hJ d_94_60 ?_
    exact s_iret hJ d_94_61 rfl rfl (h0 c0)
  · skip
    refine s_iconst_1 hJ d_94_56 ?_
    refine s_goto (tgt := 61) hJ d_94_57 rfl ?_
    exact s_iret hJ d_94_61 rfl rfl (h1 c0)
-- ReelOfBoxes$Finder.readHead(I)Z : method 95
theorem d_95_0 : decode c_95 0 = .ok (.iload_n 1, 1) := by decide +kernel
theorem d_95_1 : decode c_95 1 = .ok (.bipush (8), 2) := by decide +kernel
theorem d_95_3 : decode c_95 3 = .ok (.if_icmp .ge (5), 3) := by decide +kernel
theorem d_95_6 : decode c_95 6 = .ok (.iconst (0), 1) := by decide +kernel
theorem d_95_7 : decode c_95 7 = .ok (.ireturn, 1) := by decide +kernel
theorem d_95_8 : decode c_95 8 = .ok (.aload_n 0, 1) := by decide +kernel
theorem d_95_9 : decode c_95 9 = .ok (.getfield 56, 3) := by decide +kernel
theorem d_95_12 : decode c_95 12 = .ok (.aload_n 0, 1) := by decide +kernel
theorem d_95_13 : decode c_95 13 = .ok (.getfield 44, 3) := by decide +kernel
theorem d_95_16 : decode c_95 16 = .ok (.iconst (4), 1) := by decide +kernel
theorem d_95_17 : decode c_95 17 = .ok (.invokevirtual 103, 3) := by decide +kernel
theorem d_95_20 : decode c_95 20 = .ok (.lstore_n 2, 1) := by decide +kernel
theorem d_95_21 : decode c_95 21 = .ok (.lload_n 2, 1) := by decide +kernel
theorem d_95_22 : decode c_95 22 = .ok (.lconst 1, 1) := by decide +kernel
theorem d_95_23 : decode c_95 23 = .ok (.lcmp, 1) := by decide +kernel
theorem d_95_24 : decode c_95 24 = .ok (.ifCond .ne (8), 3) := by decide +kernel
theorem d_95_27 : decode c_95 27 = .ok (.bipush (16), 2) := by decide +kernel
theorem d_95_29 : decode c_95 29 = .ok (.goto (5), 3) := by decide +kernel
theorem d_95_32 : decode c_95 32 = .ok (.bipush (8), 2) := by decide +kernel
theorem d_95_34 : decode c_95 34 = .ok (.istore 4, 2) := by decide +kernel
theorem d_95_36 : decode c_95 36 = .ok (.iload_n 1, 1) := by decide +kernel
theorem d_95_37 : decode c_95 37 = .ok (.iload 4, 2) := by decide +kernel
theorem d_95_39 : decode c_95 39 = .ok (.if_icmp .ge (5), 3) := by decide +kernel
theorem d_95_42 : decode c_95 42 = .ok (.iconst (0), 1) := by decide +kernel
theorem d_95_43 : decode c_95 43 = .ok (.ireturn, 1) := by decide +kernel
theorem d_95_44 : decode c_95 44 = .ok (.iload 4, 2) := by decide +kernel
theorem d_95_46 : decode c_95 46 = .ok (.bipush (16), 2) := by decide +kernel
theorem d_95_48 : decode c_95 48 = .ok (.if_icmp .ne (20), 3) := by decide +kernel
theorem d_95_51 : decode c_95 51 = .ok (.aload_n 0, 1) := by decide +kernel
theorem d_95_52 : decode c_95 52 = .ok (.getfield 56, 3) := by decide +kernel
theorem d_95_55 : decode c_95 55 = .ok (.aload_n 0, 1) := by decide +kernel
theorem d_95_56 : decode c_95 56 = .ok (.getfield 44, 3) := by decide +kernel
theorem d_95_59 : decode c_95 59 = .ok (.bipush (8), 2) := by decide +kernel
theorem d_95_61 : decode c_95 61 = .ok (.iadd, 1) := by decide +kernel
theorem d_95_62 : decode c_95 62 = .ok (.bipush (8), 2) := by decide +kernel
theorem d_95_64 : decode c_95 64 = .ok (.invokevirtual 103, 3) := by decide +kernel
theorem d_95_67 : decode c_95 67 = .ok (.lstore_n 2, 1) := by decide +kernel
theorem d_95_68 : decode c_95 68 = .ok (.lload_n 2, 1) := by decide +kernel
theorem d_95_69 : decode c_95 69 = .ok (.iload 4, 2) := by decide +kernel
theorem d_95_71 : decode c_95 71 = .ok (.i2l, 1) := by decide +kernel
theorem d_95_72 : decode c_95 72 = .ok (.lcmp, 1) := by decide +kernel
theorem d_95_73 : decode c_95 73 = .ok (.ifCond .lt (10), 3) := by decide +kernel
theorem d_95_76 : decode c_95 76 = .ok (.lload_n 2, 1) := by decide +kernel
theorem d_95_77 : decode c_95 77 = .ok (.iload_n 1, 1) := by decide +kernel
theorem d_95_78 : decode c_95 78 = .ok (.i2l, 1) := by decide +kernel
theorem d_95_79 : decode c_95 79 = .ok (.lcmp, 1) := by decide +kernel
theorem d_95_80 : decode c_95 80 = .ok (.ifCond .le (5), 3) := by decide +kernel
theorem d_95_83 : decode c_95 83 = .ok (.iconst (0), 1) := by decide +kernel
theorem d_95_84 : decode c_95 84 = .ok (.ireturn, 1) := by decide +kernel
theorem d_95_85 : decode c_95 85 = .ok (.aload_n 0, 1) := by decide +kernel
theorem d_95_86 : decode c_95 86 = .ok (.aload_n 0, 1) := by decide +kernel
theorem d_95_87 : decode c_95 87 = .ok (.getfield 56, 3) := by decide +kernel
theorem d_95_90 : decode c_95 90 = .ok (.aload_n 0, 1) := by decide +kernel
theorem d_95_91 : decode c_95 91 = .ok (.getfield 44, 3) := by decide +kernel
theorem d_95_94 : decode c_95 94 = .ok (.iconst (4), 1) := by decide +kernel
theorem d_95_95 : decode c_95 95 = .ok (.iadd, 1) := by decide +kernel
theorem d_95_96 : decode c_95 96 = .ok (.iconst (4), 1) := by decide +kernel
theorem d_95_97 : decode c_95 97 = .ok (.invokevirtual 103, 3) := by decide +kernel
theorem d_95_100 : decode c_95 100 = .ok (.l2i, 1) := by decide +kernel
theorem d_95_101 : decode c_95 101 = .ok (.putfield 47, 3) := by decide +kernel
theorem d_95_104 : decode c_95 104 = .ok (.aload_n 0, 1) := by decide +kernel
theorem d_95_105 : decode c_95 105 = .ok (.aload_n 0, 1) := by decide +kernel
theorem d_95_106 : decode c_95 106 = .ok (.getfield 44, 3) := by decide +kernel
theorem d_95_109 : decode c_95 109 = .ok (.iload 4, 2) := by decide +kernel
theorem d_95_111 : decode c_95 111 = .ok (.iadd, 1) := by decide +kernel
theorem d_95_112 : decode c_95 112 = .ok (.putfield 50, 3) := by decide +kernel
theorem d_95_115 : decode c_95 115 = .ok (.aload_n 0, 1) := by decide +kernel
theorem d_95_116 : decode c_95 116 = .ok (.aload_n 0, 1) := by decide +kernel
theorem d_95_117 : decode c_95 117 = .ok (.getfield 44, 3) := by decide +kernel
theorem d_95_120 : decode c_95 120 = .ok (.lload_n 2, 1) := by decide +kernel
theorem d_95_121 : decode c_95 121 = .ok (.l2i, 1) := by decide +kernel
theorem d_95_122 : decode c_95 122 = .ok (.iadd, 1) := by decide +kernel
theorem d_95_123 : decode c_95 123 = .ok (.putfield 53, 3) := by decide +kernel
theorem d_95_126 : decode c_95 126 = .ok (.iconst (1), 1) := by decide +kernel
theorem d_95_127 : decode c_95 127 = .ok (.ireturn, 1) := by decide +kernel
set_option maxRecDepth 4000 in
theorem b_95_0 {mc ms : Nat} {X : Option (Nat × (Nat → Int32))} {T : aj_Tt} {Q : aj_Q} {J : aj_J} (hJ : aj_Cl 4 c_95 (some .boolean) false mc ms X T Q J) {o0 : Nat} {x1 : Int32} {q0 : Nat} {Z : aj_Z} {I : aj_I} {G : aj_G} {C : Nat × Nat} (k0 : Z.2.1 o0 = some (.inl 4)) (r0 : Z.2.2 o0 0 = .ref q0) (k1 : Z.2.1 q0 = some (.inl 2)) (h0 : 8 ≤ x1 → T 0 0 86 [.ref q0, .int (I o0 12), .int 4] Z I G (fun r Z1 I1 G1 => J 20 [some (.ref o0), some (.int x1), none, none, none] (r.toList ++ []) Z1 I1 G1 C)) (h1 : ¬ 8 ≤ x1 → Q (some (.int 0)) Z I G) : J 0 [some (.ref o0), some (.int x1), none, none, none] [] Z I G C := by
  refine s_iload_n hJ d_95_0 rfl ?_
  refine s_bipush (v := 8) hJ d_95_1 (by decide) ?_
  refine s_icmp_ge (tgt := 8) hJ d_95_3 rfl (fun c0 => ?_) (fun c0 => ?_)
  · skip
    refine s_aload_n hJ d_95_8 rfl ?_
    refine s_getr hJ lf_4_56 rfl d_95_9 k0 r0 ?_
    refine s_aload_n hJ d_95_12 rfl ?_
    refine s_geti hJ lf_4_44 rfl d_95_13 k0 ?_
    refine s_iconst_4 hJ d_95_16 ?_
    exact s_V2 hJ lm_4_103 d_95_17 (Nat.le_of_ble_eq_true rfl) k1 (h0 c0)
  · skip
    refine s_iconst_0 hJ d_95_6 ?_
    exact s_iret hJ d_95_7 rfl rfl (h1 c0)
set_option maxRecDepth 4000 in
theorem b_95_20 {mc ms : Nat} {X : Option (Nat × (Nat → Int32))} {T : aj_Tt} {Q : aj_Q} {J : aj_J} (hJ : aj_Cl 4 c_95 (some .boolean) false mc ms X T Q J) {o0 : Nat} {x1 : Int32} {w2 : Option Value} {w3 : Option Value} {w4 : Option Value} {s0 : Int64} {Z : aj_Z} {I : aj_I} {G : aj_G} {C : Nat × Nat} (h0 : ¬ s0 = 1 → J 34 [some (.ref o0), some (.int x1), some (.long s0), none, w4] [.int 8] Z I G C) (h1 : s0 = 1 → J 34 [some (.ref o0), some (.int x1), some (.long s0), none, w4] [.int 16] Z I G C) : J 20 [some (.ref o0), some (.int x1), w2, w3, w4] [.long s0] Z I G C := by
  refine s_lstore_n hJ d_95_20 (Nat.le_of_ble_eq_true rfl) ?_
  refine s_lload_n hJ d_95_21 rfl ?_
  refine s_lconst_1 hJ d_95_22 ?_
  refine s_lif_ne (tgt := 32) hJ d_95_23 d_95_24 rfl (fun c0 => ?_) (fun c0 => ?_)
  · skip
    refine s_bipush (v := 8) hJ d_95_32 (by decide) ?_
    exact h0 c0
  · skip
    refine s_bipush (v := 16) hJ d_95_27 (by decide) ?_
    refine s_goto (tgt := 34) hJ d_95_29 rfl ?_
    exact h1 c0
set_option maxRecDepth 4000 in
theorem b_95_34 {mc ms : Nat} {X : Option (Nat × (Nat → Int32))} {T : aj_Tt} {Q : aj_Q} {J : aj_J} (hJ : aj_Cl 4 c_95 (some .boolean) false mc ms X T Q J) {o0 : Nat} {x1 : Int32} {x2 : Int64} {w3 : Option Value} {w4 : Option Value} {s0 : Int32} {q0 : Nat} {Z : aj_Z} {I : aj_I} {G : aj_G} {C : Nat × Nat} (h0 : s0 ≤ x1 → ¬ s0 = 16 → J 68 [some (.ref o0), some (.int x1), some (.long x2), (aj_clr w3), some (.int s0)] [] Z I G C) (k0 : Z.2.1 o0 = some (.inl 4)) (r0 : Z.2.2 o0 0 = .ref q0) (k1 : Z.2.1 q0 = some (.inl 2)) (h1 : s0 ≤ x1 → s0 = 16 → T 0 0 86 [.ref q0, .int ((I o0 12) + 8), .int 8] Z I G (fun r Z1 I1 G1 => J 67 [some (.ref o0), some (.int x1), some (.long x2), (aj_clr w3), some (.int s0)] (r.toList ++ []) Z1 I1 G1 C)) (h2 : ¬ s0 ≤ x1 → Q (some (.int 0)) Z I G) : J 34 [some (.ref o0), some (.int x1), some (.long x2), w3, w4] [.int s0] Z I G C := by
  refine s_istore hJ d_95_34 (Nat.le_of_ble_eq_true rfl) ?_
  refine s_iload_n hJ d_95_36 rfl ?_
  refine s_iload hJ d_95_37 rfl ?_
  refine s_icmp_ge (tgt := 44) hJ d_95_39 rfl (fun c0 => ?_) (fun c0 => ?_)
  · skip
    refine s_iload hJ d_95_44 rfl ?_
    refine s_bipush (v := 16) hJ d_95_46 (by decide) ?_
    refine s_icmp_ne (tgt := 68) hJ d_95_48 rfl (fun c1 => ?_) (fun c1 => ?_)
    · skip
      exact h0 c0 c1
    · skip
      refine s_aload_n hJ d_95_51 rfl ?_
      refine s_getr hJ lf_4_56 rfl d_95_52 k0 r0 ?_
      refine s_aload_n hJ d_95_55 rfl ?_
      refine s_geti hJ lf_4_44 rfl d_95_56 k0 ?_
      refine s_bipush (v := 8) hJ d_95_59 (by decide) ?_
      refine s_iadd hJ d_95_61 ?_
      refine s_bipush (v := 8) hJ d_95_62 (by decide) ?_
      exact s_V2 hJ lm_4_103 d_95_64 (Nat.le_of_ble_eq_true rfl) k1 (h1 c0 c1)
  · skip
    refine s_iconst_0 hJ d_95_42 ?_
    exact s_iret hJ d_95_43 rfl rfl (h2 c0)
set_option maxRecDepth 4000 in
theorem b_95_67 {mc ms : Nat} {X : Option (Nat × (Nat → Int32))} {T : aj_Tt} {Q : aj_Q} {J : aj_J} (hJ : aj_Cl 4 c_95 (some .boolean) false mc ms X T Q J) {o0 : Nat} {x1 : Int32} {w2 : Option Value} {w3 : Option Value} {x4 : Int32} {s0 : Int64} {Z : aj_Z} {I : aj_I} {G : aj_G} {C : Nat × Nat} (h0 : J 68 [some (.ref o0), some (.int x1), some (.long s0), none, some (.int x4)] [] Z I G C) : J 67 [some (.ref o0), some (.int x1), w2, w3, some (.int x4)] [.long s0] Z I G C := by
  refine s_lstore_n hJ d_95_67 (Nat.le_of_ble_eq_true rfl) ?_
  exact h0
set_option maxRecDepth 4000 in
theorem b_95_68 {mc ms : Nat} {X : Option (Nat × (Nat → Int32))} {T : aj_Tt} {Q : aj_Q} {J : aj_J} (hJ : aj_Cl 4 c_95 (some .boolean) false mc ms X T Q J) {o0 : Nat} {x1 : Int32} {x2 : Int64} {w3 : Option Value} {x4 : Int32} {q0 : Nat} {Z : aj_Z} {I : aj_I} {G : aj_G} {C : Nat × Nat} (h0 : x2 < (Int32.toInt64 x4) → Q (some (.int 0)) Z I G) (k0 : Z.2.1 o0 = some (.inl 4)) (r0 : Z.2.2 o0 0 = .ref q0) (k1 : Z.2.1 q0 = some (.inl 2)) (h1 : ¬ x2 < (Int32.toInt64 x4) → x2 ≤ (Int32.toInt64 x1) → T 0 0 86 [.ref q0, .int ((I o0 12) + 4), .int 4] Z I G (fun r Z1 I1 G1 => J 100 [some (.ref o0), some (.int x1), some (.long x2), w3, some (.int x4)] (r.toList ++ [.ref o0]) Z1 I1 G1 C)) (h2 : ¬ x2 < (Int32.toInt64 x4) → ¬ x2 ≤ (Int32.toInt64 x1) → Q (some (.int 0)) Z I G) : J 68 [some (.ref o0), some (.int x1), some (.long x2), w3, some (.int x4)] [] Z I G C := by
  refine s_lload_n hJ d_95_68 rfl ?_
  refine s_iload hJ d_95_69 rfl ?_
  refine s_i2l hJ d_95_71 ?_
  refine s_lif_lt (tgt := 83) hJ d_95_72 d_95_73 rfl (fun c0 => ?_) (fun c0 => ?_)
  · skip
    refine s_iconst_0 hJ d_95_83 ?_
    exact s_iret hJ d_95_84 rfl rfl (h0 c0)
  · skip
    refine s_lload_n hJ d_95_76 rfl ?_
    refine s_iload_n hJ d_95_77 rfl ?_
    refine s_i2l hJ d_95_78 ?_
    refine s_lif_le (tgt := 85) hJ d_95_79 d_95_80 rfl (fun c1 => ?_) (fun c1 => ?_)
    · skip
      refine s_aload_n hJ d_95_85 rfl ?_
      refine s_aload_n hJ d_95_86 rfl ?_
      refine s_getr hJ lf_4_56 rfl d_95_87 k0 r0 ?_
      refine s_aload_n hJ d_95_90 rfl ?_
      refine s_geti hJ lf_4_44 rfl d_95_91 k0 ?_
      refine s_iconst_4 hJ d_95_94 ?_
      refine s_iadd hJ d_95_95 ?_
      refine s_iconst_4 hJ d_95_96 ?_
      exact s_V2 hJ lm_4_103 d_95_97 (Nat.le_of_ble_eq_true rfl) k1 (h1 c0 c1)
    · skip
      refine s_iconst_0 hJ d_95_83 ?_
      exact s_iret hJ d_95_84 rfl rfl (h2 c0 c1)
set_option maxRecDepth 4000 in
theorem b_95_100 {mc ms : Nat} {X : Option (Nat × (Nat → Int32))} {T : aj_Tt} {Q : aj_Q} {J : aj_J} (hJ : aj_Cl 4 c_95 (some .boolean) false mc ms X T Q J) {o0 : Nat} {w1 : Option Value} {x2 : Int64} {w3 : Option Value} {x4 : Int32} {s0 : Int64} {s1 : Nat} {Z : aj_Z} {I : aj_I} {G : aj_G} {C : Nat × Nat} (k0 : Z.2.1 s1 = some (.inl 4)) (k1 : Z.2.1 o0 = some (.inl 4)) (h0 : Q (some (.int 1)) Z (aj_u2 (aj_u2 (aj_u2 I s1 13 (Int64.toInt32 s0)) o0 14 (((aj_u2 I s1 13 (Int64.toInt32 s0)) o0 12) + x4)) o0 15 (((aj_u2 (aj_u2 I s1 13 (Int64.toInt32 s0)) o0 14 (((aj_u2 I s1 13 (Int64.toInt32 s0)) o0 12) + x4)) o0 12) + (Int64.toInt32 x2))) G) : J 100 [some (.ref o0), w1, some (.long x2), w3, some (.int x4)] [.long s0, .ref s1] Z I G C := by
  refine s_l2i hJ d_95_100 ?_
  refine s_puti hJ lf_4_47 rfl d_95_101 k0 ?_
  refine s_aload_n hJ d_95_104 rfl ?_
  refine s_aload_n hJ d_95_105 rfl ?_
  refine s_geti hJ lf_4_44 rfl d_95_106 k1 ?_
  refine s_iload hJ d_95_109 rfl ?_
  refine s_iadd hJ d_95_111 ?_
  refine s_puti hJ lf_4_50 rfl d_95_112 k1 ?_
  refine s_aload_n hJ d_95_115 rfl ?_
  refine s_aload_n hJ d_95_116 rfl ?_
  refine s_geti hJ lf_4_44 rfl d_95_117 k1 ?_
  refine s_lload_n hJ d_95_120 rfl ?_
  refine s_l2i hJ d_95_121 ?_
  refine s_iadd hJ d_95_122 ?_
  refine s_puti hJ lf_4_53 rfl d_95_123 k1 ?_
  refine s_iconst_1 hJ d_95_126 ?_
  exact s_iret hJ d_95_127 rfl rfl (h0)
-- ReelOfBoxes$Finder.keepBox()Z : method 96
theorem d_96_0 : decode c_96 0 = .ok (.aload_n 0, 1) := by decide +kernel
theorem d_96_1 : decode c_96 1 = .ok (.getfield 24, 3) := by decide +kernel
theorem d_96_4 : decode c_96 4 = .ok (.tableswitch (84) (0) (2) #[(28), (33), (55)], 28) := by decide +kernel
theorem d_96_32 : decode c_96 32 = .ok (.aload_n 0, 1) := by decide +kernel
theorem d_96_33 : decode c_96 33 = .ok (.invokevirtual 107, 3) := by decide +kernel
theorem d_96_36 : decode c_96 36 = .ok (.ireturn, 1) := by decide +kernel
theorem d_96_37 : decode c_96 37 = .ok (.aload_n 0, 1) := by decide +kernel
theorem d_96_38 : decode c_96 38 = .ok (.getfield 47, 3) := by decide +kernel
theorem d_96_41 : decode c_96 41 = .ok (.ldc 110, 2) := by decide +kernel
theorem d_96_43 : decode c_96 43 = .ok (.if_icmp .ne (10), 3) := by decide +kernel
theorem d_96_46 : decode c_96 46 = .ok (.aload_n 0, 1) := by decide +kernel
theorem d_96_47 : decode c_96 47 = .ok (.invokevirtual 111, 3) := by decide +kernel
theorem d_96_50 : decode c_96 50 = .ok (.ifCond .eq (7), 3) := by decide +kernel
theorem d_96_53 : decode c_96 53 = .ok (.iconst (1), 1) := by decide +kernel
theorem d_96_54 : decode c_96 54 = .ok (.goto (4), 3) := by decide +kernel
theorem d_96_57 : decode c_96 57 = .ok (.iconst (0), 1) := by decide +kernel
theorem d_96_58 : decode c_96 58 = .ok (.ireturn, 1) := by decide +kernel
theorem d_96_59 : decode c_96 59 = .ok (.aload_n 0, 1) := by decide +kernel
theorem d_96_60 : decode c_96 60 = .ok (.getfield 47, 3) := by decide +kernel
theorem d_96_63 : decode c_96 63 = .ok (.ldc 114, 2) := by decide +kernel
theorem d_96_65 : decode c_96 65 = .ok (.if_icmp .ne (17), 3) := by decide +kernel
theorem d_96_68 : decode c_96 68 = .ok (.aload_n 0, 1) := by decide +kernel
theorem d_96_69 : decode c_96 69 = .ok (.getfield 67, 3) := by decide +kernel
theorem d_96_72 : decode c_96 72 = .ok (.aload_n 0, 1) := by decide +kernel
theorem d_96_73 : decode c_96 73 = .ok (.getfield 44, 3) := by decide +kernel
theorem d_96_76 : decode c_96 76 = .ok (.invokevirtual 115, 3) := by decide +kernel
theorem d_96_79 : decode c_96 79 = .ok (.ifCond .eq (7), 3) := by decide +kernel
theorem d_96_82 : decode c_96 82 = .ok (.iconst (1), 1) := by decide +kernel
theorem d_96_83 : decode c_96 83 = .ok (.goto (4), 3) := by decide +kernel
theorem d_96_86 : decode c_96 86 = .ok (.iconst (0), 1) := by decide +kernel
theorem d_96_87 : decode c_96 87 = .ok (.ireturn, 1) := by decide +kernel
theorem d_96_88 : decode c_96 88 = .ok (.aload_n 0, 1) := by decide +kernel
theorem d_96_89 : decode c_96 89 = .ok (.invokevirtual 118, 3) := by decide +kernel
theorem d_96_92 : decode c_96 92 = .ok (.ireturn, 1) := by decide +kernel
set_option maxRecDepth 4000 in
theorem b_96_0 {mc ms : Nat} {X : Option (Nat × (Nat → Int32))} {T : aj_Tt} {Q : aj_Q} {J : aj_J} (hJ : aj_Cl 4 c_96 (some .boolean) false mc ms X T Q J) {o0 : Nat} {q0 : Nat} {Z : aj_Z} {I : aj_I} {G : aj_G} {C : Nat × Nat} (k0 : Z.2.1 o0 = some (.inl 4)) (h0 : (I o0 5) = 0 → T 0 0 97 [.ref o0] Z I G (fun r Z1 I1 G1 => J 36 [some (.ref o0)] (r.toList ++ []) Z1 I1 G1 C)) (h1 : ¬ (I o0 5) = 0 → (I o0 5) = 1 → ¬ (I o0 13) = 1953653099 → Q (some (.int 1)) Z I G) (h2 : ¬ (I o0 5) = 0 → (I o0 5) = 1 → (I o0 13) = 1953653099 → T 0 0 99 [.ref o0] Z I G (fun r Z1 I1 G1 => J 50 [some (.ref o0)] (r.toList ++ []) Z1 I1 G1 C)) (h3 : ¬ (I o0 5) = 0 → ¬ (I o0 5) = 1 → (I o0 5) = 2 → ¬ (I o0 13) = 1937007212 → Q (some (.int 1)) Z I G) (r0 : Z.2.2 o0 11 = .ref q0) (k1 : Z.2.1 q0 = some (.inl 9)) (h4 : ¬ (I o0 5) = 0 → ¬ (I o0 5) = 1 → (I o0 5) = 2 → (I o0 13) = 1937007212 → T 0 0 141 [.ref q0, .int (I o0 12)] Z I G (fun r Z1 I1 G1 => J 79 [some (.ref o0)] (r.toList ++ []) Z1 I1 G1 C)) (h5 : ¬ (I o0 5) = 0 → ¬ (I o0 5) = 1 → ¬ (I o0 5) = 2 → T 0 0 98 [.ref o0] Z I G (fun r Z1 I1 G1 => J 92 [some (.ref o0)] (r.toList ++ []) Z1 I1 G1 C)) : J 0 [some (.ref o0)] [] Z I G C := by
  refine s_aload_n hJ d_96_0 rfl ?_
  refine s_geti hJ lf_4_24 rfl d_96_1 k0 ?_
  by_cases c0 : (I o0 5) = 0
  · skip
    refine s_tableIn (off := 28) (tgt := 32) hJ d_96_4 (by rw [c0]; decide) (by rw [c0]; decide) (by rw [c0]; decide) rfl ?_
    refine s_aload_n hJ d_96_32 rfl ?_
    exact s_V0 hJ lm_4_107 d_96_33 (Nat.le_of_ble_eq_true rfl) k0 (h0 c0)
  by_cases c1 : (I o0 5) = 1
  · skip
    refine s_tableIn (off := 33) (tgt := 37) hJ d_96_4 (by rw [c1]; decide) (by rw [c1]; decide) (by rw [c1]; decide) rfl ?_
    refine s_aload_n hJ d_96_37 rfl ?_
    refine s_geti hJ lf_4_47 rfl d_96_38 k0 ?_
    refine s_ldc hJ lc_4_110 d_96_41 ?_
    refine s_icmp_ne (tgt := 53) hJ d_96_43 rfl (fun c2 => ?_) (fun c2 => ?_)
    · skip
      refine s_iconst_1 hJ d_96_53 ?_
      refine s_goto (tgt := 58) hJ d_96_54 rfl ?_
      exact s_iret hJ d_96_58 rfl rfl (h1 c0 c1 c2)
    · skip
      refine s_aload_n hJ d_96_46 rfl ?_
      exact s_V0 hJ lm_4_111 d_96_47 (Nat.le_of_ble_eq_true rfl) k0 (h2 c0 c1 c2)
  by_cases c2 : (I o0 5) = 2
  · skip
    refine s_tableIn (off := 55) (tgt := 59) hJ d_96_4 (by rw [c2]; decide) (by rw [c2]; decide) (by rw [c2]; decide) rfl ?_
    refine s_aload_n hJ d_96_59 rfl ?_
    refine s_geti hJ lf_4_47 rfl d_96_60 k0 ?_
    refine s_ldc hJ lc_4_114 d_96_63 ?_
    refine s_icmp_ne (tgt := 82) hJ d_96_65 rfl (fun c3 => ?_) (fun c3 => ?_)
    · skip
      refine s_iconst_1 hJ d_96_82 ?_
      refine s_goto (tgt := 87) hJ d_96_83 rfl ?_
      exact s_iret hJ d_96_87 rfl rfl (h3 c0 c1 c2 c3)
    · skip
      refine s_aload_n hJ d_96_68 rfl ?_
      refine s_getr hJ lf_4_67 rfl d_96_69 k0 r0 ?_
      refine s_aload_n hJ d_96_72 rfl ?_
      refine s_geti hJ lf_4_44 rfl d_96_73 k0 ?_
      exact s_V1 hJ lm_4_115 d_96_76 (Nat.le_of_ble_eq_true rfl) k1 (h4 c0 c1 c2 c3)
  refine s_tableOut (tgt := 88) hJ d_96_4 (by have := lv_neT (k := 0) (a := 0) c0 (by decide); have := lv_neT (k := 1) (a := 1) c1 (by decide); have := lv_neT (k := 2) (a := 2) c2 (by decide); omega) rfl ?_
  refine s_aload_n hJ d_96_88 rfl ?_
  exact s_V0 hJ lm_4_118 d_96_89 (Nat.le_of_ble_eq_true rfl) k0 (h5 c0 c1 c2)
set_option maxRecDepth 4000 in
theorem b_96_36 {mc ms : Nat} {X : Option (Nat × (Nat → Int32))} {T : aj_Tt} {Q : aj_Q} {J : aj_J} (hJ : aj_Cl 4 c_96 (some .boolean) false mc ms X T Q J) {w0 : Option Value} {s0 : Int32} {Z : aj_Z} {I : aj_I} {G : aj_G} {C : Nat × Nat} (h0 : narrow .boolean (.int s0) = .int s0) (h1 : Q (some (.int s0)) Z I G) : J 36 [w0] [.int s0] Z I G C := by
  exact s_iret hJ d_96_36 rfl (h0) (h1)
set_option maxRecDepth 4000 in
theorem b_96_50 {mc ms : Nat} {X : Option (Nat × (Nat → Int32))} {T : aj_Tt} {Q : aj_Q} {J : aj_J} (hJ : aj_Cl 4 c_96 (some .boolean) false mc ms X T Q J) {w0 : Option Value} {s0 : Int32} {Z : aj_Z} {I : aj_I} {G : aj_G} {C : Nat × Nat} (h0 : s0 = 0 → Q (some (.int 0)) Z I G) (h1 : ¬ s0 = 0 → Q (some (.int 1)) Z I G) : J 50 [w0] [.int s0] Z I G C := by
  refine s_if_eq (tgt := 57) hJ d_96_50 rfl (fun c0 => ?_) (fun c0 => ?_)
  · skip
    refine s_iconst_0 hJ d_96_57 ?_
    exact s_iret hJ d_96_58 rfl rfl (h0 c0)
  · skip
    refine s_iconst_1 hJ d_96_53 ?_
    refine s_goto (tgt := 58) hJ d_96_54 rfl ?_
    exact s_iret hJ d_96_58 rfl rfl (h1 c0)
set_option maxRecDepth 4000 in
theorem b_96_79 {mc ms : Nat} {X : Option (Nat × (Nat → Int32))} {T : aj_Tt} {Q : aj_Q} {J : aj_J} (hJ : aj_Cl 4 c_96 (some .boolean) false mc ms X T Q J) {w0 : Option Value} {s0 : Int32} {Z : aj_Z} {I : aj_I} {G : aj_G} {C : Nat × Nat} (h0 : s0 = 0 → Q (some (.int 0)) Z I G) (h1 : ¬ s0 = 0 → Q (some (.int 1)) Z I G) : J 79 [w0] [.int s0] Z I G C := by
  refine s_if_eq (tgt := 86) hJ d_96_79 rfl (fun c0 => ?_) (fun c0 => ?_)
  · skip
    refine s_iconst_0 hJ d_96_86 ?_
    exact s_iret hJ d_96_87 rfl rfl (h0 c0)
  · skip
    refine s_iconst_1 hJ d_96_82 ?_
    refine s_goto (tgt := 87) hJ d_96_83 rfl ?_
    exact s_iret hJ d_96_87 rfl rfl (h1 c0)
set_option maxRecDepth 4000 in
theorem b_96_92 {mc ms : Nat} {X : Option (Nat × (Nat → Int32))} {T : aj_Tt} {Q : aj_Q} {J : aj_J} (hJ : aj_Cl 4 c_96 (some .boolean) false mc ms X T Q J) {w0 : Option Value} {s0 : Int32} {Z : aj_Z} {I : aj_I} {G : aj_G} {C : Nat × Nat} (h0 : narrow .boolean (.int s0) = .int s0) (h1 : Q (some (.int s0)) Z I G) : J 92 [w0] [.int s0] Z I G C := by
  exact s_iret hJ d_96_92 rfl (h0) (h1)
-- ReelOfBoxes$Finder.keepInFile()Z : method 97
theorem d_97_0 : decode c_97 0 = .ok (.iconst (1), 1) := by decide +kernel
theorem d_97_1 : decode c_97 1 = .ok (.istore_n 1, 1) := by decide +kernel
theorem d_97_2 : decode c_97 2 = .ok (.aload_n 0, 1) := by decide +kernel
theorem d_97_3 : decode c_97 3 = .ok (.getfield 47, 3) := by decide +kernel
theorem d_97_6 : decode c_97 6 = .ok (.ldc 121, 2) := by decide +kernel
theorem d_97_8 : decode c_97 8 = .ok (.if_icmp .ne (21), 3) := by decide +kernel
theorem d_97_11 : decode c_97 11 = .ok (.aload_n 0, 1) := by decide +kernel
theorem d_97_12 : decode c_97 12 = .ok (.getfield 28, 3) := by decide +kernel
theorem d_97_15 : decode c_97 15 = .ok (.ifCond .ne (7), 3) := by decide +kernel
theorem d_97_18 : decode c_97 18 = .ok (.iconst (1), 1) := by decide +kernel
theorem d_97_19 : decode c_97 19 = .ok (.goto (4), 3) := by decide +kernel
theorem d_97_22 : decode c_97 22 = .ok (.iconst (0), 1) := by decide +kernel
theorem d_97_23 : decode c_97 23 = .ok (.istore_n 1, 1) := by decide +kernel
theorem d_97_24 : decode c_97 24 = .ok (.aload_n 0, 1) := by decide +kernel
theorem d_97_25 : decode c_97 25 = .ok (.iconst (1), 1) := by decide +kernel
theorem d_97_26 : decode c_97 26 = .ok (.putfield 28, 3) := by decide +kernel
theorem d_97_29 : decode c_97 29 = .ok (.aload_n 0, 1) := by decide +kernel
theorem d_97_30 : decode c_97 30 = .ok (.getfield 47, 3) := by decide +kernel
theorem d_97_33 : decode c_97 33 = .ok (.ldc 122, 2) := by decide +kernel
theorem d_97_35 : decode c_97 35 = .ok (.if_icmp .ne (37), 3) := by decide +kernel
theorem d_97_38 : decode c_97 38 = .ok (.aload_n 0, 1) := by decide +kernel
theorem d_97_39 : decode c_97 39 = .ok (.getfield 32, 3) := by decide +kernel
theorem d_97_42 : decode c_97 42 = .ok (.ifCond .ne (7), 3) := by decide +kernel
theorem d_97_45 : decode c_97 45 = .ok (.iconst (1), 1) := by decide +kernel
theorem d_97_46 : decode c_97 46 = .ok (.goto (4), 3) := by decide +kernel
theorem d_97_49 : decode c_97 49 = .ok (.iconst (0), 1) := by decide +kernel
theorem d_97_50 : decode c_97 50 = .ok (.istore_n 1, 1) := by decide +kernel
theorem d_97_51 : decode c_97 51 = .ok (.aload_n 0, 1) := by decide +kernel
theorem d_97_52 : decode c_97 52 = .ok (.iconst (1), 1) := by decide +kernel
theorem d_97_53 : decode c_97 53 = .ok (.putfield 32, 3) := by decide +kernel
theorem d_97_56 : decode c_97 56 = .ok (.aload_n 0, 1) := by decide +kernel
theorem d_97_57 : decode c_97 57 = .ok (.aload_n 0, 1) := by decide +kernel
theorem d_97_58 : decode c_97 58 = .ok (.getfield 50, 3) := by decide +kernel
theorem d_97_61 : decode c_97 61 = .ok (.putfield 35, 3) := by decide +kernel
theorem d_97_64 : decode c_97 64 = .ok (.aload_n 0, 1) := by decide +kernel
theorem d_97_65 : decode c_97 65 = .ok (.aload_n 0, 1) := by decide +kernel
theorem d_97_66 : decode c_97 66 = .ok (.getfield 53, 3) := by decide +kernel
theorem d_97_69 : decode c_97 69 = .ok (.putfield 38, 3) := by decide +kernel
theorem d_97_72 : decode c_97 72 = .ok (.iload_n 1, 1) := by decide +kernel
theorem d_97_73 : decode c_97 73 = .ok (.ireturn, 1) := by decide +kernel
set_option maxRecDepth 4000 in
theorem b_97_0 {mc ms : Nat} {X : Option (Nat × (Nat → Int32))} {T : aj_Tt} {Q : aj_Q} {J : aj_J} (hJ : aj_Cl 4 c_97 (some .boolean) false mc ms X T Q J) {o0 : Nat} {Z : aj_Z} {I : aj_I} {G : aj_G} {C : Nat × Nat} (k0 : Z.2.1 o0 = some (.inl 4)) (h0 : ¬ (I o0 13) = 1836019574 → J 29 [some (.ref o0), some (.int 1)] [] Z I G C) (h1 : (I o0 13) = 1836019574 → ¬ (I o0 6) = 0 → J 23 [some (.ref o0), some (.int 1)] [.int 0] Z I G C) (h2 : (I o0 13) = 1836019574 → (I o0 6) = 0 → J 23 [some (.ref o0), some (.int 1)] [.int 1] Z I G C) : J 0 [some (.ref o0), none] [] Z I G C := by
  refine s_iconst_1 hJ d_97_0 ?_
  refine s_istore_n hJ d_97_1 (Nat.le_of_ble_eq_true rfl) ?_
  refine s_aload_n hJ d_97_2 rfl ?_
  refine s_geti hJ lf_4_47 rfl d_97_3 k0 ?_
  refine s_ldc hJ lc_4_121 d_97_6 ?_
  refine s_icmp_ne (tgt := 29) hJ d_97_8 rfl (fun c0 => ?_) (fun c0 => ?_)
  · skip
    exact h0 c0
  · skip
    refine s_aload_n hJ d_97_11 rfl ?_
    refine s_geti hJ lf_4_28 rfl d_97_12 k0 ?_
    refine s_if_ne (tgt := 22) hJ d_97_15 rfl (fun c1 => ?_) (fun c1 => ?_)
    · skip
      refine s_iconst_0 hJ d_97_22 ?_
      exact h1 c0 c1
    · skip
      refine s_iconst_1 hJ d_97_18 ?_
      refine s_goto (tgt := 23) hJ d_97_19 rfl ?_
      exact h2 c0 c1
set_option maxRecDepth 4000 in
theorem b_97_23 {mc ms : Nat} {X : Option (Nat × (Nat → Int32))} {T : aj_Tt} {Q : aj_Q} {J : aj_J} (hJ : aj_Cl 4 c_97 (some .boolean) false mc ms X T Q J) {o0 : Nat} {w1 : Option Value} {s0 : Int32} {Z : aj_Z} {I : aj_I} {G : aj_G} {C : Nat × Nat} (k0 : Z.2.1 o0 = some (.inl 4)) (h0 : J 29 [some (.ref o0), some (.int s0)] [] Z (aj_u2 I o0 6 1) G C) : J 23 [some (.ref o0), w1] [.int s0] Z I G C := by
  refine s_istore_n hJ d_97_23 (Nat.le_of_ble_eq_true rfl) ?_
  refine s_aload_n hJ d_97_24 rfl ?_
  refine s_iconst_1 hJ d_97_25 ?_
  refine s_putz hJ lf_4_28 rfl (by decide) d_97_26 k0 ?_
  exact h0
set_option maxRecDepth 4000 in
theorem b_97_29 {mc ms : Nat} {X : Option (Nat × (Nat → Int32))} {T : aj_Tt} {Q : aj_Q} {J : aj_J} (hJ : aj_Cl 4 c_97 (some .boolean) false mc ms X T Q J) {o0 : Nat} {x1 : Int32} {Z : aj_Z} {I : aj_I} {G : aj_G} {C : Nat × Nat} (k0 : Z.2.1 o0 = some (.inl 4)) (h0 : ¬ (I o0 13) = 1835295092 → narrow .boolean (.int x1) = .int x1) (h1 : ¬ (I o0 13) = 1835295092 → Q (some (.int x1)) Z I G) (h2 : (I o0 13) = 1835295092 → ¬ (I o0 7) = 0 → J 50 [some (.ref o0), some (.int x1)] [.int 0] Z I G C) (h3 : (I o0 13) = 1835295092 → (I o0 7) = 0 → J 50 [some (.ref o0), some (.int x1)] [.int 1] Z I G C) : J 29 [some (.ref o0), some (.int x1)] [] Z I G C := by
  refine s_aload_n hJ d_97_29 rfl ?_
  refine s_geti hJ lf_4_47 rfl d_97_30 k0 ?_
  refine s_ldc hJ lc_4_122 d_97_33 ?_
  refine s_icmp_ne (tgt := 72) hJ d_97_35 rfl (fun c0 => ?_) (fun c0 => ?_)
  · skip
    refine s_iload_n hJ d_97_72 rfl ?_
    exact s_iret hJ d_97_73 rfl (h0 c0) (h1 c0)
  · skip
    refine s_aload_n hJ d_97_38 rfl ?_
    refine s_geti hJ lf_4_32 rfl d_97_39 k0 ?_
    refine s_if_ne (tgt := 49) hJ d_97_42 rfl (fun c1 => ?_) (fun c1 => ?_)
    · skip
      refine s_iconst_0 hJ d_97_49 ?_
      exact h2 c0 c1
    · skip
      refine s_iconst_1 hJ d_97_45 ?_
      refine s_goto (tgt := 50) hJ d_97_46 rfl ?_
      exact h3 c0 c1
set_option maxRecDepth 4000 in
theorem b_97_50 {mc ms : Nat} {X : Option (Nat × (Nat → Int32))} {T : aj_Tt} {Q : aj_Q} {J : aj_J} (hJ : aj_Cl 4 c_97 (some .boolean) false mc ms X T Q J) {o0 : Nat} {w1 : Option Value} {s0 : Int32} {Z : aj_Z} {I : aj_I} {G : aj_G} {C : Nat × Nat} (k0 : Z.2.1 o0 = some (.inl 4)) (h0 : narrow .boolean (.int s0) = .int s0) (h1 : Q (some (.int s0)) Z (aj_u2 (aj_u2 (aj_u2 I o0 7 1) o0 8 ((aj_u2 I o0 7 1) o0 14)) o0 9 ((aj_u2 (aj_u2 I o0 7 1) o0 8 ((aj_u2 I o0 7 1) o0 14)) o0 15)) G) : J 50 [some (.ref o0), w1] [.int s0] Z I G C := by
  refine s_istore_n hJ d_97_50 (Nat.le_of_ble_eq_true rfl) ?_
  refine s_aload_n hJ d_97_51 rfl ?_
  refine s_iconst_1 hJ d_97_52 ?_
  refine s_putz hJ lf_4_32 rfl (by decide) d_97_53 k0 ?_
  refine s_aload_n hJ d_97_56 rfl ?_
  refine s_aload_n hJ d_97_57 rfl ?_
  refine s_geti hJ lf_4_50 rfl d_97_58 k0 ?_
  refine s_puti hJ lf_4_35 rfl d_97_61 k0 ?_
  refine s_aload_n hJ d_97_64 rfl ?_
  refine s_aload_n hJ d_97_65 rfl ?_
  refine s_geti hJ lf_4_53 rfl d_97_66 k0 ?_
  refine s_puti hJ lf_4_38 rfl d_97_69 k0 ?_
  refine s_iload_n hJ d_97_72 rfl ?_
  exact s_iret hJ d_97_73 rfl (h0) (h1)
-- ReelOfBoxes$Finder.keepTable()Z : method 98
theorem d_98_0 : decode c_98 0 = .ok (.aload_n 0, 1) := by decide +kernel
theorem d_98_1 : decode c_98 1 = .ok (.getfield 67, 3) := by decide +kernel
theorem d_98_4 : decode c_98 4 = .ok (.aload_n 0, 1) := by decide +kernel
theorem d_98_5 : decode c_98 5 = .ok (.getfield 47, 3) := by decide +kernel
theorem d_98_8 : decode c_98 8 = .ok (.invokevirtual 123, 3) := by decide +kernel
theorem d_98_11 : decode c_98 11 = .ok (.astore_n 1, 1) := by decide +kernel
theorem d_98_12 : decode c_98 12 = .ok (.aload_n 1, 1) := by decide +kernel
theorem d_98_13 : decode c_98 13 = .ok (.ifnonnull (5), 3) := by decide +kernel
theorem d_98_16 : decode c_98 16 = .ok (.iconst (1), 1) := by decide +kernel
theorem d_98_17 : decode c_98 17 = .ok (.ireturn, 1) := by decide +kernel
theorem d_98_18 : decode c_98 18 = .ok (.aload_n 1, 1) := by decide +kernel
theorem d_98_19 : decode c_98 19 = .ok (.invokevirtual 127, 3) := by decide +kernel
theorem d_98_22 : decode c_98 22 = .ok (.ifCond .eq (5), 3) := by decide +kernel
theorem d_98_25 : decode c_98 25 = .ok (.iconst (0), 1) := by decide +kernel
theorem d_98_26 : decode c_98 26 = .ok (.ireturn, 1) := by decide +kernel
theorem d_98_27 : decode c_98 27 = .ok (.aload_n 1, 1) := by decide +kernel
theorem d_98_28 : decode c_98 28 = .ok (.aload_n 0, 1) := by decide +kernel
theorem d_98_29 : decode c_98 29 = .ok (.getfield 44, 3) := by decide +kernel
theorem d_98_32 : decode c_98 32 = .ok (.aload_n 0, 1) := by decide +kernel
theorem d_98_33 : decode c_98 33 = .ok (.getfield 47, 3) := by decide +kernel
theorem d_98_36 : decode c_98 36 = .ok (.aload_n 0, 1) := by decide +kernel
theorem d_98_37 : decode c_98 37 = .ok (.getfield 50, 3) := by decide +kernel
theorem d_98_40 : decode c_98 40 = .ok (.aload_n 0, 1) := by decide +kernel
theorem d_98_41 : decode c_98 41 = .ok (.getfield 53, 3) := by decide +kernel
theorem d_98_44 : decode c_98 44 = .ok (.invokevirtual 132, 3) := by decide +kernel
theorem d_98_47 : decode c_98 47 = .ok (.iconst (1), 1) := by decide +kernel
theorem d_98_48 : decode c_98 48 = .ok (.ireturn, 1) := by decide +kernel
set_option maxRecDepth 4000 in
theorem b_98_0 {mc ms : Nat} {X : Option (Nat × (Nat → Int32))} {T : aj_Tt} {Q : aj_Q} {J : aj_J} (hJ : aj_Cl 4 c_98 (some .boolean) false mc ms X T Q J) {o0 : Nat} {q0 : Nat} {Z : aj_Z} {I : aj_I} {G : aj_G} {C : Nat × Nat} (k0 : Z.2.1 o0 = some (.inl 4)) (r0 : Z.2.2 o0 11 = .ref q0) (k1 : Z.2.1 q0 = some (.inl 9)) (h0 : T 0 0 142 [.ref q0, .int (I o0 13)] Z I G (fun r Z1 I1 G1 => J 11 [some (.ref o0), none] (r.toList ++ []) Z1 I1 G1 C)) : J 0 [some (.ref o0), none] [] Z I G C := by
  refine s_aload_n hJ d_98_0 rfl ?_
  refine s_getr hJ lf_4_67 rfl d_98_1 k0 r0 ?_
  refine s_aload_n hJ d_98_4 rfl ?_
  refine s_geti hJ lf_4_47 rfl d_98_5 k0 ?_
  exact s_V1 hJ lm_4_123 d_98_8 (Nat.le_of_ble_eq_true rfl) k1 (h0)
set_option maxRecDepth 4000 in
theorem b_98_11 {mc ms : Nat} {X : Option (Nat × (Nat → Int32))} {T : aj_Tt} {Q : aj_Q} {J : aj_J} (hJ : aj_Cl 4 c_98 (some .boolean) false mc ms X T Q J) {o0 : Nat} {w1 : Option Value} {s0 : Nat} {Z : aj_Z} {I : aj_I} {G : aj_G} {C : Nat × Nat} (k0 : Z.2.1 s0 = some (.inl 7)) (h0 : T 0 0 117 [.ref s0] Z I G (fun r Z1 I1 G1 => J 22 [some (.ref o0), some (.ref s0)] (r.toList ++ []) Z1 I1 G1 C)) : J 11 [some (.ref o0), w1] [.ref s0] Z I G C := by
  refine s_astore_n hJ d_98_11 (Nat.le_of_ble_eq_true rfl) ?_
  refine s_aload_n hJ d_98_12 rfl ?_
  refine s_ifnonnull (tgt := 18) hJ d_98_13 rfl ?_
  refine s_aload_n hJ d_98_18 rfl ?_
  exact s_V0 hJ lm_4_127 d_98_19 (Nat.le_of_ble_eq_true rfl) k0 (h0)
set_option maxRecDepth 4000 in
theorem b_98_11N {mc ms : Nat} {X : Option (Nat × (Nat → Int32))} {T : aj_Tt} {Q : aj_Q} {J : aj_J} (hJ : aj_Cl 4 c_98 (some .boolean) false mc ms X T Q J) {o0 : Nat} {w1 : Option Value} {Z : aj_Z} {I : aj_I} {G : aj_G} {C : Nat × Nat} (h0 : Q (some (.int 1)) Z I G) : J 11 [some (.ref o0), w1] [.null] Z I G C := by
  refine s_astore_nN hJ d_98_11 (Nat.le_of_ble_eq_true rfl) ?_
  refine s_aload_nN hJ d_98_12 rfl ?_
  refine s_ifnonnullN hJ d_98_13 ?_
  refine s_iconst_1 hJ d_98_16 ?_
  exact s_iret hJ d_98_17 rfl rfl (h0)
set_option maxRecDepth 4000 in
theorem b_98_22 {mc ms : Nat} {X : Option (Nat × (Nat → Int32))} {T : aj_Tt} {Q : aj_Q} {J : aj_J} (hJ : aj_Cl 4 c_98 (some .boolean) false mc ms X T Q J) {o0 : Nat} {o1 : Nat} {s0 : Int32} {Z : aj_Z} {I : aj_I} {G : aj_G} {C : Nat × Nat} (k0 : Z.2.1 o0 = some (.inl 4)) (k1 : Z.2.1 o1 = some (.inl 7)) (h0 : s0 = 0 → T 0 0 118 [.ref o1, .int (I o0 12), .int (I o0 13), .int (I o0 14), .int (I o0 15)] Z I G (fun r Z1 I1 G1 => J 47 [some (.ref o0), some (.ref o1)] (r.toList ++ []) Z1 I1 G1 C)) (h1 : ¬ s0 = 0 → Q (some (.int 0)) Z I G) : J 22 [some (.ref o0), some (.ref o1)] [.int s0] Z I G C := by
  refine s_if_eq (tgt := 27) hJ d_98_22 rfl (fun c0 => ?_) (fun c0 => ?_)
  · skip
    refine s_aload_n hJ d_98_27 rfl ?_
    refine s_aload_n hJ d_98_28 rfl ?_
    refine s_geti hJ lf_4_44 rfl d_98_29 k0 ?_
    refine s_aload_n hJ d_98_32 rfl ?_
    refine s_geti hJ lf_4_47 rfl d_98_33 k0 ?_
    refine s_aload_n hJ d_98_36 rfl ?_
    refine s_geti hJ lf_4_50 rfl d_98_37 k0 ?_
    refine s_aload_n hJ d_98_40 rfl ?_
    refine s_geti hJ lf_4_53 rfl d_98_41 k0 ?_
    exact s_V4 hJ lm_4_132 d_98_44 (Nat.le_of_ble_eq_true rfl) k1 (h0 c0)
  · skip
    refine s_iconst_0 hJ d_98_25 ?_
    exact s_iret hJ d_98_26 rfl rfl (h1 c0)
set_option maxRecDepth 4000 in
theorem b_98_47 {mc ms : Nat} {X : Option (Nat × (Nat → Int32))} {T : aj_Tt} {Q : aj_Q} {J : aj_J} (hJ : aj_Cl 4 c_98 (some .boolean) false mc ms X T Q J) {w0 : Option Value} {w1 : Option Value} {Z : aj_Z} {I : aj_I} {G : aj_G} {C : Nat × Nat} (h0 : Q (some (.int 1)) Z I G) : J 47 [w0, w1] [] Z I G C := by
  refine s_iconst_1 hJ d_98_47 ?_
  exact s_iret hJ d_98_48 rfl rfl (h0)
-- ReelOfBoxes$Finder.openTrak()Z : method 99
theorem d_99_0 : decode c_99 0 = .ok (.aload_n 0, 1) := by decide +kernel
theorem d_99_1 : decode c_99 1 = .ok (.getfield 41, 3) := by decide +kernel
theorem d_99_4 : decode c_99 4 = .ok (.iconst (3), 1) := by decide +kernel
theorem d_99_5 : decode c_99 5 = .ok (.if_icmp .lt (5), 3) := by decide +kernel
theorem d_99_8 : decode c_99 8 = .ok (.iconst (0), 1) := by decide +kernel
theorem d_99_9 : decode c_99 9 = .ok (.ireturn, 1) := by decide +kernel
theorem d_99_10 : decode c_99 10 = .ok (.aload_n 0, 1) := by decide +kernel
theorem d_99_11 : decode c_99 11 = .ok (.aload_n 0, 1) := by decide +kernel
theorem d_99_12 : decode c_99 12 = .ok (.getfield 11, 3) := by decide +kernel
theorem d_99_15 : decode c_99 15 = .ok (.aload_n 0, 1) := by decide +kernel
theorem d_99_16 : decode c_99 16 = .ok (.getfield 41, 3) := by decide +kernel
theorem d_99_19 : decode c_99 19 = .ok (.aaload, 1) := by decide +kernel
theorem d_99_20 : decode c_99 20 = .ok (.putfield 67, 3) := by decide +kernel
theorem d_99_23 : decode c_99 23 = .ok (.aload_n 0, 1) := by decide +kernel
theorem d_99_24 : decode c_99 24 = .ok (.getfield 67, 3) := by decide +kernel
theorem d_99_27 : decode c_99 27 = .ok (.invokevirtual 136, 3) := by decide +kernel
theorem d_99_30 : decode c_99 30 = .ok (.aload_n 0, 1) := by decide +kernel
theorem d_99_31 : decode c_99 31 = .ok (.dup, 1) := by decide +kernel
theorem d_99_32 : decode c_99 32 = .ok (.getfield 41, 3) := by decide +kernel
theorem d_99_35 : decode c_99 35 = .ok (.iconst (1), 1) := by decide +kernel
theorem d_99_36 : decode c_99 36 = .ok (.iadd, 1) := by decide +kernel
theorem d_99_37 : decode c_99 37 = .ok (.putfield 41, 3) := by decide +kernel
theorem d_99_40 : decode c_99 40 = .ok (.iconst (1), 1) := by decide +kernel
theorem d_99_41 : decode c_99 41 = .ok (.ireturn, 1) := by decide +kernel
set_option maxRecDepth 4000 in
theorem b_99_0 {mc ms : Nat} {X : Option (Nat × (Nat → Int32))} {T : aj_Tt} {Q : aj_Q} {J : aj_J} (hJ : aj_Cl 4 c_99 (some .boolean) false mc ms X T Q J) {o0 : Nat} {q0 : Nat} {nk1 : Nat} {q1 : Nat} {Z : aj_Z} {I : aj_I} {G : aj_G} {C : Nat × Nat} (k0 : Z.2.1 o0 = some (.inl 4)) (r0 : Z.2.2 o0 2 = .ref q0) (k1 : Z.2.1 q0 = some (.inr (4, nk1))) (h0 : (I o0 10) < 3 → vp_in (I o0 10) nk1) (h1 : (I o0 10) < 3 → Z.2.2 q0 (Int32.toNatClampNeg (I o0 10)) = .ref q1) (k3 : Z.2.1 q1 = some (.inl 9)) (h2 : (I o0 10) < 3 → T 0 0 139 [.ref q1] (Z.1, Z.2.1, aj_u2 Z.2.2 o0 11 (.ref q1)) I G (fun r Z1 I1 G1 => J 30 [some (.ref o0)] (r.toList ++ []) Z1 I1 G1 C)) (h3 : ¬ (I o0 10) < 3 → Q (some (.int 0)) Z I G) : J 0 [some (.ref o0)] [] Z I G C := by
  refine s_aload_n hJ d_99_0 rfl ?_
  refine s_geti hJ lf_4_41 rfl d_99_1 k0 ?_
  refine s_iconst_3 hJ d_99_4 ?_
  refine s_icmp_lt (tgt := 10) hJ d_99_5 rfl (fun c0 => ?_) (fun c0 => ?_)
  · skip
    refine s_aload_n hJ d_99_10 rfl ?_
    refine s_aload_n hJ d_99_11 rfl ?_
    refine s_getr hJ lf_4_11 rfl d_99_12 k0 r0 ?_
    refine s_aload_n hJ d_99_15 rfl ?_
    refine s_geti hJ lf_4_41 rfl d_99_16 k0 ?_
    refine s_aald hJ d_99_19 k1 tc_4 (h0 c0) (h1 c0) ?_
    refine s_putr hJ lf_4_67 (Or.inl rfl) rfl (Or.inr ⟨_, rfl⟩) d_99_20 k0 ?_
    refine s_aload_n hJ d_99_23 rfl ?_
    refine s_getr hJ lf_4_67 rfl d_99_24 k0 aj_u2_at ?_
    exact s_V0 hJ lm_4_136 d_99_27 (Nat.le_of_ble_eq_true rfl) k3 (h2 c0)
  · skip
    refine s_iconst_0 hJ d_99_8 ?_
    exact s_iret hJ d_99_9 rfl rfl (h3 c0)
set_option maxRecDepth 4000 in
theorem b_99_30 {mc ms : Nat} {X : Option (Nat × (Nat → Int32))} {T : aj_Tt} {Q : aj_Q} {J : aj_J} (hJ : aj_Cl 4 c_99 (some .boolean) false mc ms X T Q J) {o0 : Nat} {Z : aj_Z} {I : aj_I} {G : aj_G} {C : Nat × Nat} (k0 : Z.2.1 o0 = some (.inl 4)) (h0 : Q (some (.int 1)) Z (aj_u2 I o0 10 ((I o0 10) + 1)) G) : J 30 [some (.ref o0)] [] Z I G C := by
  refine s_aload_n hJ d_99_30 rfl ?_
  refine s_dup hJ d_99_31 rfl ?_
  refine s_geti hJ lf_4_41 rfl d_99_32 k0 ?_
  refine s_iconst_1 hJ d_99_35 ?_
  refine s_iadd hJ d_99_36 ?_
  refine s_puti hJ lf_4_41 rfl d_99_37 k0 ?_
  refine s_iconst_1 hJ d_99_40 ?_
  exact s_iret hJ d_99_41 rfl rfl (h0)
