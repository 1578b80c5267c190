/-! decode rows and block rows, by a program -/
-- ReelOfBoxes$Writer.layChunks(I)I : method 167
theorem d_167_0 : decode c_167 0 = .ok (.iload_n 1, 1) := by decide +kernel
theorem d_167_1 : decode c_167 1 = .ok (.istore_n 2, 1) := by decide +kernel
theorem d_167_2 : decode c_167 2 = .ok (.iconst (0), 1) := by decide +kernel
theorem d_167_3 : decode c_167 3 = .ok (.istore_n 3, 1) := by decide +kernel
theorem d_167_4 : decode c_167 4 = .ok (.iload_n 3, 1) := by decide +kernel
theorem d_167_5 : decode c_167 5 = .ok (.bipush (16), 2) := by decide +kernel
theorem d_167_7 : decode c_167 7 = .ok (.if_icmp .ge (63), 3) := by decide +kernel
theorem d_167_10 : decode c_167 10 = .ok (.iconst (0), 1) := by decide +kernel
theorem d_167_11 : decode c_167 11 = .ok (.istore 4, 2) := by decide +kernel
theorem d_167_13 : decode c_167 13 = .ok (.iload 4, 2) := by decide +kernel
theorem d_167_15 : decode c_167 15 = .ok (.iconst (3), 1) := by decide +kernel
theorem d_167_16 : decode c_167 16 = .ok (.if_icmp .ge (48), 3) := by decide +kernel
theorem d_167_19 : decode c_167 19 = .ok (.aload_n 0, 1) := by decide +kernel
theorem d_167_20 : decode c_167 20 = .ok (.getfield 26, 3) := by decide +kernel
theorem d_167_23 : decode c_167 23 = .ok (.iload 4, 2) := by decide +kernel
theorem d_167_25 : decode c_167 25 = .ok (.invokevirtual 98, 3) := by decide +kernel
theorem d_167_28 : decode c_167 28 = .ok (.astore 5, 2) := by decide +kernel
theorem d_167_30 : decode c_167 30 = .ok (.aload 5, 2) := by decide +kernel
theorem d_167_32 : decode c_167 32 = .ok (.ifnull (26), 3) := by decide +kernel
theorem d_167_35 : decode c_167 35 = .ok (.aload_n 0, 1) := by decide +kernel
theorem d_167_36 : decode c_167 36 = .ok (.getfield 9, 3) := by decide +kernel
theorem d_167_39 : decode c_167 39 = .ok (.iload 4, 2) := by decide +kernel
theorem d_167_41 : decode c_167 41 = .ok (.bipush (16), 2) := by decide +kernel
theorem d_167_43 : decode c_167 43 = .ok (.imul, 1) := by decide +kernel
theorem d_167_44 : decode c_167 44 = .ok (.iload_n 3, 1) := by decide +kernel
theorem d_167_45 : decode c_167 45 = .ok (.iadd, 1) := by decide +kernel
theorem d_167_46 : decode c_167 46 = .ok (.iload_n 2, 1) := by decide +kernel
theorem d_167_47 : decode c_167 47 = .ok (.iastore, 1) := by decide +kernel
theorem d_167_48 : decode c_167 48 = .ok (.iload_n 2, 1) := by decide +kernel
theorem d_167_49 : decode c_167 49 = .ok (.aload_n 0, 1) := by decide +kernel
theorem d_167_50 : decode c_167 50 = .ok (.aload 5, 2) := by decide +kernel
theorem d_167_52 : decode c_167 52 = .ok (.iload_n 3, 1) := by decide +kernel
theorem d_167_53 : decode c_167 53 = .ok (.invokevirtual 107, 3) := by decide +kernel
theorem d_167_56 : decode c_167 56 = .ok (.iadd, 1) := by decide +kernel
theorem d_167_57 : decode c_167 57 = .ok (.istore_n 2, 1) := by decide +kernel
theorem d_167_58 : decode c_167 58 = .ok (.iinc 4 (1), 3) := by decide +kernel
theorem d_167_61 : decode c_167 61 = .ok (.goto (-48), 3) := by decide +kernel
theorem d_167_64 : decode c_167 64 = .ok (.iinc 3 (1), 3) := by decide +kernel
theorem d_167_67 : decode c_167 67 = .ok (.goto (-63), 3) := by decide +kernel
theorem d_167_70 : decode c_167 70 = .ok (.iload_n 2, 1) := by decide +kernel
theorem d_167_71 : decode c_167 71 = .ok (.ireturn, 1) := by decide +kernel
set_option maxRecDepth 4000 in
theorem b_167_0 {mc ms : Nat} {X : Option (Nat × (Nat → Int32))} {T : aj_Tt} {Q : aj_Q} {J : aj_J} (hJ : aj_Cl 10 c_167 (some .int) false mc ms X T Q J) {o0 : Nat} {x1 : Int32} {Z : aj_Z} {I : aj_I} {G : aj_G} {C : Nat × Nat} (h0 : J 4 [some (.ref o0), some (.int x1), some (.int x1), some (.int 0), none, none] [] Z I G C) : J 0 [some (.ref o0), some (.int x1), none, none, none, none] [] Z I G C := by
  refine s_iload_n hJ d_167_0 rfl ?_
  refine s_istore_n hJ d_167_1 (Nat.le_of_ble_eq_true rfl) ?_
  refine s_iconst_0 hJ d_167_2 ?_
  refine s_istore_n hJ d_167_3 (Nat.le_of_ble_eq_true rfl) ?_
  exact h0
set_option maxRecDepth 4000 in
theorem b_167_4 {mc ms : Nat} {X : Option (Nat × (Nat → Int32))} {T : aj_Tt} {Q : aj_Q} {J : aj_J} (hJ : aj_Cl 10 c_167 (some .int) false mc ms X T Q J) {o0 : Nat} {w1 : Option Value} {x2 : Int32} {x3 : Int32} {w4 : Option Value} {w5 : Option Value} {Z : aj_Z} {I : aj_I} {G : aj_G} {C : Nat × Nat} (h0 : 16 ≤ x3 → Q (some (.int x2)) Z I G) (h1 : ¬ 16 ≤ x3 → J 13 [some (.ref o0), w1, some (.int x2), some (.int x3), some (.int 0), w5] [] Z I G C) : J 4 [some (.ref o0), w1, some (.int x2), some (.int x3), w4, w5] [] Z I G C := by
  refine s_iload_n hJ d_167_4 rfl ?_
  refine s_bipush (v := 16) hJ d_167_5 (by decide) ?_
  refine s_icmp_ge (tgt := 70) hJ d_167_7 rfl (fun c0 => ?_) (fun c0 => ?_)
  · skip
    refine s_iload_n hJ d_167_70 rfl ?_
    exact s_iret hJ d_167_71 rfl rfl (h0 c0)
  · skip
    refine s_iconst_0 hJ d_167_10 ?_
    refine s_istore hJ d_167_11 (Nat.le_of_ble_eq_true rfl) ?_
    exact h1 c0
set_option maxRecDepth 4000 in
theorem b_167_13 {mc ms : Nat} {X : Option (Nat × (Nat → Int32))} {T : aj_Tt} {Q : aj_Q} {J : aj_J} (hJ : aj_Cl 10 c_167 (some .int) false mc ms X T Q J) {o0 : Nat} {w1 : Option Value} {x2 : Int32} {x3 : Int32} {x4 : Int32} {w5 : Option Value} {q0 : Nat} {Z : aj_Z} {I : aj_I} {G : aj_G} {C : Nat × Nat} (h0 : 3 ≤ x4 → J 4 [some (.ref o0), w1, some (.int x2), some (.int (x3 + 1)), some (.int x4), w5] [] Z I G C) (k0 : Z.2.1 o0 = some (.inl 10)) (r0 : Z.2.2 o0 0 = .ref q0) (k1 : Z.2.1 q0 = some (.inl 6)) (h1 : ¬ 3 ≤ x4 → T 0 0 112 [.ref q0, .int x4] Z I G (fun r Z1 I1 G1 => J 28 [some (.ref o0), w1, some (.int x2), some (.int x3), some (.int x4), w5] (r.toList ++ []) Z1 I1 G1 C)) : J 13 [some (.ref o0), w1, some (.int x2), some (.int x3), some (.int x4), w5] [] Z I G C := by
  refine s_iload hJ d_167_13 rfl ?_
  refine s_iconst_3 hJ d_167_15 ?_
  refine s_icmp_ge (tgt := 64) hJ d_167_16 rfl (fun c0 => ?_) (fun c0 => ?_)
  · skip
    refine s_iinc (v := 1) hJ d_167_64 rfl (by decide) ?_
    refine s_goto (tgt := 4) hJ d_167_67 rfl ?_
    exact h0 c0
  · skip
    refine s_aload_n hJ d_167_19 rfl ?_
    refine s_getr hJ lf_10_26 rfl d_167_20 k0 r0 ?_
    refine s_iload hJ d_167_23 rfl ?_
    exact s_V1 hJ lm_10_98 d_167_25 (Nat.le_of_ble_eq_true rfl) k1 (h1 c0)
set_option maxRecDepth 4000 in
theorem b_167_28 {mc ms : Nat} {X : Option (Nat × (Nat → Int32))} {T : aj_Tt} {Q : aj_Q} {J : aj_J} (hJ : aj_Cl 10 c_167 (some .int) false mc ms X T Q J) {o0 : Nat} {w1 : Option Value} {x2 : Int32} {x3 : Int32} {x4 : Int32} {w5 : Option Value} {s0 : Nat} {q0 : Nat} {nk1 : Nat} {Z : aj_Z} {I : aj_I} {G : aj_G} {C : Nat × Nat} (k0 : Z.2.1 o0 = some (.inl 10)) (r0 : Z.2.2 o0 2 = .ref q0) (k1 : Z.2.1 q0 = some (.inr (0, nk1))) (h0 : vp_in ((x4 * 16) + x3) nk1) (h1 : T 0 0 168 [.ref o0, .ref s0, .int x3] Z (aj_u2 I q0 (Int32.toNatClampNeg ((x4 * 16) + x3)) x2) G (fun r Z1 I1 G1 => J 56 [some (.ref o0), w1, some (.int x2), some (.int x3), some (.int x4), some (.ref s0)] (r.toList ++ [.int x2]) Z1 I1 G1 C)) : J 28 [some (.ref o0), w1, some (.int x2), some (.int x3), some (.int x4), w5] [.ref s0] Z I G C := by
  refine s_astore hJ d_167_28 (Nat.le_of_ble_eq_true rfl) ?_
  refine s_aload hJ d_167_30 rfl ?_
  refine s_ifnull hJ d_167_32 ?_
  refine s_aload_n hJ d_167_35 rfl ?_
  refine s_getr hJ lf_10_9 rfl d_167_36 k0 r0 ?_
  refine s_iload hJ d_167_39 rfl ?_
  refine s_bipush (v := 16) hJ d_167_41 (by decide) ?_
  refine s_imul hJ d_167_43 ?_
  refine s_iload_n hJ d_167_44 rfl ?_
  refine s_iadd hJ d_167_45 ?_
  refine s_iload_n hJ d_167_46 rfl ?_
  refine s_iast hJ d_167_47 k1 (h0) ?_
  refine s_iload_n hJ d_167_48 rfl ?_
  refine s_aload_n hJ d_167_49 rfl ?_
  refine s_aload hJ d_167_50 rfl ?_
  refine s_iload_n hJ d_167_52 rfl ?_
  exact s_V2 hJ lm_10_107 d_167_53 (Nat.le_of_ble_eq_true rfl) k0 (h1)
set_option maxRecDepth 4000 in
theorem b_167_28N {mc ms : Nat} {X : Option (Nat × (Nat → Int32))} {T : aj_Tt} {Q : aj_Q} {J : aj_J} (hJ : aj_Cl 10 c_167 (some .int) false mc ms X T Q J) {o0 : Nat} {w1 : Option Value} {x2 : Int32} {x3 : Int32} {x4 : Int32} {w5 : Option Value} {Z : aj_Z} {I : aj_I} {G : aj_G} {C : Nat × Nat} (h0 : J 13 [some (.ref o0), w1, some (.int x2), some (.int x3), some (.int (x4 + 1)), some (.null)] [] Z I G C) : J 28 [some (.ref o0), w1, some (.int x2), some (.int x3), some (.int x4), w5] [.null] Z I G C := by
  refine s_astoreN hJ d_167_28 (Nat.le_of_ble_eq_true rfl) ?_
  refine s_aloadN hJ d_167_30 rfl ?_
  refine s_ifnullN (tgt := 58) hJ d_167_32 rfl ?_
  refine s_iinc (v := 1) hJ d_167_58 rfl (by decide) ?_
  refine s_goto (tgt := 13) hJ d_167_61 rfl ?_
  exact h0
set_option maxRecDepth 4000 in
theorem b_167_56 {mc ms : Nat} {X : Option (Nat × (Nat → Int32))} {T : aj_Tt} {Q : aj_Q} {J : aj_J} (hJ : aj_Cl 10 c_167 (some .int) false mc ms X T Q J) {o0 : Nat} {w1 : Option Value} {w2 : Option Value} {x3 : Int32} {x4 : Int32} {w5 : Option Value} {s0 : Int32} {s1 : Int32} {Z : aj_Z} {I : aj_I} {G : aj_G} {C : Nat × Nat} (h0 : J 13 [some (.ref o0), (aj_clr w1), some (.int (s1 + s0)), some (.int x3), some (.int (x4 + 1)), w5] [] Z I G C) : J 56 [some (.ref o0), w1, w2, some (.int x3), some (.int x4), w5] [.int s0, .int s1] Z I G C := by
  refine s_iadd hJ d_167_56 ?_
  refine s_istore_n hJ d_167_57 (Nat.le_of_ble_eq_true rfl) ?_
  refine s_iinc (v := 1) hJ d_167_58 rfl (by decide) ?_
  refine s_goto (tgt := 13) hJ d_167_61 rfl ?_
  exact h0
-- ReelOfBoxes$Writer.chunkBytes(LReelOfBoxes$Track;I)I : method 168
theorem d_168_0 : decode c_168 0 = .ok (.aload_n 0, 1) := by decide +kernel
theorem d_168_1 : decode c_168 1 = .ok (.aload_n 1, 1) := by decide +kernel
theorem d_168_2 : decode c_168 2 = .ok (.iload_n 2, 1) := by decide +kernel
theorem d_168_3 : decode c_168 3 = .ok (.invokevirtual 111, 3) := by decide +kernel
theorem d_168_6 : decode c_168 6 = .ok (.istore_n 3, 1) := by decide +kernel
theorem d_168_7 : decode c_168 7 = .ok (.iconst (0), 1) := by decide +kernel
theorem d_168_8 : decode c_168 8 = .ok (.istore 4, 2) := by decide +kernel
theorem d_168_10 : decode c_168 10 = .ok (.iload_n 2, 1) := by decide +kernel
theorem d_168_11 : decode c_168 11 = .ok (.aload_n 0, 1) := by decide +kernel
theorem d_168_12 : decode c_168 12 = .ok (.getfield 15, 3) := by decide +kernel
theorem d_168_15 : decode c_168 15 = .ok (.imul, 1) := by decide +kernel
theorem d_168_16 : decode c_168 16 = .ok (.istore 5, 2) := by decide +kernel
theorem d_168_18 : decode c_168 18 = .ok (.iload 5, 2) := by decide +kernel
theorem d_168_20 : decode c_168 20 = .ok (.iload_n 3, 1) := by decide +kernel
theorem d_168_21 : decode c_168 21 = .ok (.if_icmp .ge (20), 3) := by decide +kernel
theorem d_168_24 : decode c_168 24 = .ok (.iload 4, 2) := by decide +kernel
theorem d_168_26 : decode c_168 26 = .ok (.aload_n 1, 1) := by decide +kernel
theorem d_168_27 : decode c_168 27 = .ok (.iload 5, 2) := by decide +kernel
theorem d_168_29 : decode c_168 29 = .ok (.invokevirtual 114, 3) := by decide +kernel
theorem d_168_32 : decode c_168 32 = .ok (.iadd, 1) := by decide +kernel
theorem d_168_33 : decode c_168 33 = .ok (.istore 4, 2) := by decide +kernel
theorem d_168_35 : decode c_168 35 = .ok (.iinc 5 (1), 3) := by decide +kernel
theorem d_168_38 : decode c_168 38 = .ok (.goto (-20), 3) := by decide +kernel
theorem d_168_41 : decode c_168 41 = .ok (.iload 4, 2) := by decide +kernel
theorem d_168_43 : decode c_168 43 = .ok (.ireturn, 1) := by decide +kernel
set_option maxRecDepth 4000 in
theorem b_168_0 {mc ms : Nat} {X : Option (Nat × (Nat → Int32))} {T : aj_Tt} {Q : aj_Q} {J : aj_J} (hJ : aj_Cl 10 c_168 (some .int) false mc ms X T Q J) {o0 : Nat} {o1 : Nat} {x2 : Int32} {Z : aj_Z} {I : aj_I} {G : aj_G} {C : Nat × Nat} (k0 : Z.2.1 o0 = some (.inl 10)) (h0 : T 0 0 157 [.ref o0, .ref o1, .int x2] Z I G (fun r Z1 I1 G1 => J 6 [some (.ref o0), some (.ref o1), some (.int x2), none, none, none] (r.toList ++ []) Z1 I1 G1 C)) : J 0 [some (.ref o0), some (.ref o1), some (.int x2), none, none, none] [] Z I G C := by
  refine s_aload_n hJ d_168_0 rfl ?_
  refine s_aload_n hJ d_168_1 rfl ?_
  refine s_iload_n hJ d_168_2 rfl ?_
  exact s_V2 hJ lm_10_111 d_168_3 (Nat.le_of_ble_eq_true rfl) k0 (h0)
set_option maxRecDepth 4000 in
theorem b_168_6 {mc ms : Nat} {X : Option (Nat × (Nat → Int32))} {T : aj_Tt} {Q : aj_Q} {J : aj_J} (hJ : aj_Cl 10 c_168 (some .int) false mc ms X T Q J) {o0 : Nat} {o1 : Nat} {x2 : Int32} {w3 : Option Value} {w4 : Option Value} {w5 : Option Value} {s0 : Int32} {Z : aj_Z} {I : aj_I} {G : aj_G} {C : Nat × Nat} (k0 : Z.2.1 o0 = some (.inl 10)) (h0 : J 18 [some (.ref o0), some (.ref o1), some (.int x2), some (.int s0), some (.int 0), some (.int (x2 * (I o0 3)))] [] Z I G C) : J 6 [some (.ref o0), some (.ref o1), some (.int x2), w3, w4, w5] [.int s0] Z I G C := by
  refine s_istore_n hJ d_168_6 (Nat.le_of_ble_eq_true rfl) ?_
  refine s_iconst_0 hJ d_168_7 ?_
  refine s_istore hJ d_168_8 (Nat.le_of_ble_eq_true rfl) ?_
  refine s_iload_n hJ d_168_10 rfl ?_
  refine s_aload_n hJ d_168_11 rfl ?_
  refine s_geti hJ lf_10_15 rfl d_168_12 k0 ?_
  refine s_imul hJ d_168_15 ?_
  refine s_istore hJ d_168_16 (Nat.le_of_ble_eq_true rfl) ?_
  exact h0
set_option maxRecDepth 4000 in
theorem b_168_18 {mc ms : Nat} {X : Option (Nat × (Nat → Int32))} {T : aj_Tt} {Q : aj_Q} {J : aj_J} (hJ : aj_Cl 10 c_168 (some .int) false mc ms X T Q J) {w0 : Option Value} {o1 : Nat} {w2 : Option Value} {x3 : Int32} {x4 : Int32} {x5 : Int32} {Z : aj_Z} {I : aj_I} {G : aj_G} {C : Nat × Nat} (h0 : x3 ≤ x5 → Q (some (.int x4)) Z I G) (k0 : Z.2.1 o1 = some (.inl 8)) (h1 : ¬ x3 ≤ x5 → T 0 0 133 [.ref o1, .int x5] Z I G (fun r Z1 I1 G1 => J 32 [w0, some (.ref o1), w2, some (.int x3), some (.int x4), some (.int x5)] (r.toList ++ [.int x4]) Z1 I1 G1 C)) : J 18 [w0, some (.ref o1), w2, some (.int x3), some (.int x4), some (.int x5)] [] Z I G C := by
  refine s_iload hJ d_168_18 rfl ?_
  refine s_iload_n hJ d_168_20 rfl ?_
  refine s_icmp_ge (tgt := 41) hJ d_168_21 rfl (fun c0 => ?_) (fun c0 => ?_)
  · skip
    refine s_iload hJ d_168_41 rfl ?_
    exact s_iret hJ d_168_43 rfl rfl (h0 c0)
  · skip
    refine s_iload hJ d_168_24 rfl ?_
    refine s_aload_n hJ d_168_26 rfl ?_
    refine s_iload hJ d_168_27 rfl ?_
    exact s_V1 hJ lm_10_114 d_168_29 (Nat.le_of_ble_eq_true rfl) k0 (h1 c0)
set_option maxRecDepth 4000 in
theorem b_168_32 {mc ms : Nat} {X : Option (Nat × (Nat → Int32))} {T : aj_Tt} {Q : aj_Q} {J : aj_J} (hJ : aj_Cl 10 c_168 (some .int) false mc ms X T Q J) {w0 : Option Value} {o1 : Nat} {w2 : Option Value} {x3 : Int32} {w4 : Option Value} {x5 : Int32} {s0 : Int32} {s1 : Int32} {Z : aj_Z} {I : aj_I} {G : aj_G} {C : Nat × Nat} (h0 : J 18 [w0, some (.ref o1), w2, some (.int x3), some (.int (s1 + s0)), some (.int (x5 + 1))] [] Z I G C) : J 32 [w0, some (.ref o1), w2, some (.int x3), w4, some (.int x5)] [.int s0, .int s1] Z I G C := by
  refine s_iadd hJ d_168_32 ?_
  refine s_istore hJ d_168_33 (Nat.le_of_ble_eq_true rfl) ?_
  refine s_iinc (v := 1) hJ d_168_35 rfl (by decide) ?_
  refine s_goto (tgt := 18) hJ d_168_38 rfl ?_
  exact h0
-- ReelOfBoxes$Writer.put(J)V : method 169
theorem d_169_0 : decode c_169 0 = .ok (.aload_n 0, 1) := by decide +kernel
theorem d_169_1 : decode c_169 1 = .ok (.getfield 30, 3) := by decide +kernel
theorem d_169_4 : decode c_169 4 = .ok (.lload_n 1, 1) := by decide +kernel
theorem d_169_5 : decode c_169 5 = .ok (.iconst (4), 1) := by decide +kernel
theorem d_169_6 : decode c_169 6 = .ok (.invokevirtual 117, 3) := by decide +kernel
theorem d_169_9 : decode c_169 9 = .ok (.pop, 1) := by decide +kernel
theorem d_169_10 : decode c_169 10 = .ok (.return_, 1) := by decide +kernel
set_option maxRecDepth 4000 in
theorem b_169_0 {mc ms : Nat} {X : Option (Nat × (Nat → Int32))} {T : aj_Tt} {Q : aj_Q} {J : aj_J} (hJ : aj_Cl 10 c_169 (none) false mc ms X T Q J) {o0 : Nat} {x1 : Int64} {q0 : Nat} {Z : aj_Z} {I : aj_I} {G : aj_G} {C : Nat × Nat} (k0 : Z.2.1 o0 = some (.inl 10)) (r0 : Z.2.2 o0 1 = .ref q0) (k1 : Z.2.1 q0 = some (.inl 2)) (h0 : T 0 0 85 [.ref q0, .long x1, .int 4] Z I G (fun r Z1 I1 G1 => J 9 [some (.ref o0), some (.long x1), none] (r.toList ++ []) Z1 I1 G1 C)) : J 0 [some (.ref o0), some (.long x1), none] [] Z I G C := by
  refine s_aload_n hJ d_169_0 rfl ?_
  refine s_getr hJ lf_10_30 rfl d_169_1 k0 r0 ?_
  refine s_lload_n hJ d_169_4 rfl ?_
  refine s_iconst_4 hJ d_169_5 ?_
  exact s_V2 hJ lm_10_117 d_169_6 (Nat.le_of_ble_eq_true rfl) k1 (h0)
set_option maxRecDepth 4000 in
theorem b_169_9 {mc ms : Nat} {X : Option (Nat × (Nat → Int32))} {T : aj_Tt} {Q : aj_Q} {J : aj_J} (hJ : aj_Cl 10 c_169 (none) false mc ms X T Q J) {w0 : Option Value} {w1 : Option Value} {w2 : Option Value} {s0 : Int32} {Z : aj_Z} {I : aj_I} {G : aj_G} {C : Nat × Nat} (h0 : Q none Z I G) : J 9 [w0, w1, w2] [.int s0] Z I G C := by
  refine s_pop hJ d_169_9 rfl ?_
  exact s_vret hJ d_169_10 rfl (h0)
-- ReelOfBoxes$Writer.putHead(II)V : method 170
theorem d_170_0 : decode c_170 0 = .ok (.aload_n 0, 1) := by decide +kernel
theorem d_170_1 : decode c_170 1 = .ok (.iload_n 1, 1) := by decide +kernel
theorem d_170_2 : decode c_170 2 = .ok (.i2l, 1) := by decide +kernel
theorem d_170_3 : decode c_170 3 = .ok (.invokevirtual 121, 3) := by decide +kernel
theorem d_170_6 : decode c_170 6 = .ok (.aload_n 0, 1) := by decide +kernel
theorem d_170_7 : decode c_170 7 = .ok (.iload_n 2, 1) := by decide +kernel
theorem d_170_8 : decode c_170 8 = .ok (.i2l, 1) := by decide +kernel
theorem d_170_9 : decode c_170 9 = .ok (.invokevirtual 121, 3) := by decide +kernel
theorem d_170_12 : decode c_170 12 = .ok (.return_, 1) := by decide +kernel
set_option maxRecDepth 4000 in
theorem b_170_0 {mc ms : Nat} {X : Option (Nat × (Nat → Int32))} {T : aj_Tt} {Q : aj_Q} {J : aj_J} (hJ : aj_Cl 10 c_170 (none) false mc ms X T Q J) {o0 : Nat} {x1 : Int32} {x2 : Int32} {Z : aj_Z} {I : aj_I} {G : aj_G} {C : Nat × Nat} (k0 : Z.2.1 o0 = some (.inl 10)) (h0 : T 0 0 169 [.ref o0, .long (Int32.toInt64 x1)] Z I G (fun r Z1 I1 G1 => J 6 [some (.ref o0), some (.int x1), some (.int x2)] (r.toList ++ []) Z1 I1 G1 C)) : J 0 [some (.ref o0), some (.int x1), some (.int x2)] [] Z I G C := by
  refine s_aload_n hJ d_170_0 rfl ?_
  refine s_iload_n hJ d_170_1 rfl ?_
  refine s_i2l hJ d_170_2 ?_
  exact s_V1 hJ lm_10_121 d_170_3 (Nat.le_of_ble_eq_true rfl) k0 (h0)
set_option maxRecDepth 4000 in
theorem b_170_6 {mc ms : Nat} {X : Option (Nat × (Nat → Int32))} {T : aj_Tt} {Q : aj_Q} {J : aj_J} (hJ : aj_Cl 10 c_170 (none) false mc ms X T Q J) {o0 : Nat} {w1 : Option Value} {x2 : Int32} {Z : aj_Z} {I : aj_I} {G : aj_G} {C : Nat × Nat} (k0 : Z.2.1 o0 = some (.inl 10)) (h0 : T 0 0 169 [.ref o0, .long (Int32.toInt64 x2)] Z I G (fun r Z1 I1 G1 => J 12 [some (.ref o0), w1, some (.int x2)] (r.toList ++ []) Z1 I1 G1 C)) : J 6 [some (.ref o0), w1, some (.int x2)] [] Z I G C := by
  refine s_aload_n hJ d_170_6 rfl ?_
  refine s_iload_n hJ d_170_7 rfl ?_
  refine s_i2l hJ d_170_8 ?_
  exact s_V1 hJ lm_10_121 d_170_9 (Nat.le_of_ble_eq_true rfl) k0 (h0)
set_option maxRecDepth 4000 in
theorem b_170_12 {mc ms : Nat} {X : Option (Nat × (Nat → Int32))} {T : aj_Tt} {Q : aj_Q} {J : aj_J} (hJ : aj_Cl 10 c_170 (none) false mc ms X T Q J) {w0 : Option Value} {w1 : Option Value} {w2 : Option Value} {Z : aj_Z} {I : aj_I} {G : aj_G} {C : Nat × Nat} (h0 : Q none Z I G) : J 12 [w0, w1, w2] [] Z I G C := by
  exact s_vret hJ d_170_12 rfl (h0)
-- ReelOfBoxes$Writer.putTableHead(III)V : method 171
theorem d_171_0 : decode c_171 0 = .ok (.aload_n 0, 1) := by decide +kernel
theorem d_171_1 : decode c_171 1 = .ok (.iload_n 2, 1) := by decide +kernel
theorem d_171_2 : decode c_171 2 = .ok (.iload_n 3, 1) := by decide +kernel
theorem d_171_3 : decode c_171 3 = .ok (.invokestatic 79, 3) := by decide +kernel
theorem d_171_6 : decode c_171 6 = .ok (.iload_n 1, 1) := by decide +kernel
theorem d_171_7 : decode c_171 7 = .ok (.invokevirtual 125, 3) := by decide +kernel
theorem d_171_10 : decode c_171 10 = .ok (.aload_n 0, 1) := by decide +kernel
theorem d_171_11 : decode c_171 11 = .ok (.lconst 0, 1) := by decide +kernel
theorem d_171_12 : decode c_171 12 = .ok (.invokevirtual 121, 3) := by decide +kernel
theorem d_171_15 : decode c_171 15 = .ok (.aload_n 0, 1) := by decide +kernel
theorem d_171_16 : decode c_171 16 = .ok (.iload_n 2, 1) := by decide +kernel
theorem d_171_17 : decode c_171 17 = .ok (.i2l, 1) := by decide +kernel
theorem d_171_18 : decode c_171 18 = .ok (.invokevirtual 121, 3) := by decide +kernel
theorem d_171_21 : decode c_171 21 = .ok (.return_, 1) := by decide +kernel
set_option maxRecDepth 4000 in
theorem b_171_0 {mc ms : Nat} {X : Option (Nat × (Nat → Int32))} {T : aj_Tt} {Q : aj_Q} {J : aj_J} (hJ : aj_Cl 10 c_171 (none) false mc ms X T Q J) {o0 : Nat} {x1 : Int32} {x2 : Int32} {x3 : Int32} {Z : aj_Z} {I : aj_I} {G : aj_G} {C : Nat × Nat} (h0 : T 0 0 163 [.int x2, .int x3] Z I G (fun r Z1 I1 G1 => J 6 [some (.ref o0), some (.int x1), some (.int x2), some (.int x3)] (r.toList ++ [.ref o0]) Z1 I1 G1 C)) : J 0 [some (.ref o0), some (.int x1), some (.int x2), some (.int x3)] [] Z I G C := by
  refine s_aload_n hJ d_171_0 rfl ?_
  refine s_iload_n hJ d_171_1 rfl ?_
  refine s_iload_n hJ d_171_2 rfl ?_
  exact s_S2 hJ lm_10_79 d_171_3 (Nat.le_of_ble_eq_true rfl) (h0)
set_option maxRecDepth 4000 in
theorem b_171_6 {mc ms : Nat} {X : Option (Nat × (Nat → Int32))} {T : aj_Tt} {Q : aj_Q} {J : aj_J} (hJ : aj_Cl 10 c_171 (none) false mc ms X T Q J) {o0 : Nat} {x1 : Int32} {x2 : Int32} {w3 : Option Value} {s0 : Int32} {s1 : Nat} {Z : aj_Z} {I : aj_I} {G : aj_G} {C : Nat × Nat} (k0 : Z.2.1 s1 = some (.inl 10)) (h0 : T 0 0 170 [.ref s1, .int s0, .int x1] Z I G (fun r Z1 I1 G1 => J 10 [some (.ref o0), some (.int x1), some (.int x2), w3] (r.toList ++ []) Z1 I1 G1 C)) : J 6 [some (.ref o0), some (.int x1), some (.int x2), w3] [.int s0, .ref s1] Z I G C := by
  refine s_iload_n hJ d_171_6 rfl ?_
  exact s_V2 hJ lm_10_125 d_171_7 (Nat.le_of_ble_eq_true rfl) k0 (h0)
set_option maxRecDepth 4000 in
theorem b_171_10 {mc ms : Nat} {X : Option (Nat × (Nat → Int32))} {T : aj_Tt} {Q : aj_Q} {J : aj_J} (hJ : aj_Cl 10 c_171 (none) false mc ms X T Q J) {o0 : Nat} {w1 : Option Value} {x2 : Int32} {w3 : Option Value} {Z : aj_Z} {I : aj_I} {G : aj_G} {C : Nat × Nat} (k0 : Z.2.1 o0 = some (.inl 10)) (h0 : T 0 0 169 [.ref o0, .long 0] Z I G (fun r Z1 I1 G1 => J 15 [some (.ref o0), w1, some (.int x2), w3] (r.toList ++ []) Z1 I1 G1 C)) : J 10 [some (.ref o0), w1, some (.int x2), w3] [] Z I G C := by
  refine s_aload_n hJ d_171_10 rfl ?_
  refine s_lconst_0 hJ d_171_11 ?_
  exact s_V1 hJ lm_10_121 d_171_12 (Nat.le_of_ble_eq_true rfl) k0 (h0)
set_option maxRecDepth 4000 in
theorem b_171_15 {mc ms : Nat} {X : Option (Nat × (Nat → Int32))} {T : aj_Tt} {Q : aj_Q} {J : aj_J} (hJ : aj_Cl 10 c_171 (none) false mc ms X T Q J) {o0 : Nat} {w1 : Option Value} {x2 : Int32} {w3 : Option Value} {Z : aj_Z} {I : aj_I} {G : aj_G} {C : Nat × Nat} (k0 : Z.2.1 o0 = some (.inl 10)) (h0 : T 0 0 169 [.ref o0, .long (Int32.toInt64 x2)] Z I G (fun r Z1 I1 G1 => J 21 [some (.ref o0), w1, some (.int x2), w3] (r.toList ++ []) Z1 I1 G1 C)) : J 15 [some (.ref o0), w1, some (.int x2), w3] [] Z I G C := by
  refine s_aload_n hJ d_171_15 rfl ?_
  refine s_iload_n hJ d_171_16 rfl ?_
  refine s_i2l hJ d_171_17 ?_
  exact s_V1 hJ lm_10_121 d_171_18 (Nat.le_of_ble_eq_true rfl) k0 (h0)
set_option maxRecDepth 4000 in
theorem b_171_21 {mc ms : Nat} {X : Option (Nat × (Nat → Int32))} {T : aj_Tt} {Q : aj_Q} {J : aj_J} (hJ : aj_Cl 10 c_171 (none) false mc ms X T Q J) {w0 : Option Value} {w1 : Option Value} {w2 : Option Value} {w3 : Option Value} {Z : aj_Z} {I : aj_I} {G : aj_G} {C : Nat × Nat} (h0 : Q none Z I G) : J 21 [w0, w1, w2, w3] [] Z I G C := by
  exact s_vret hJ d_171_21 rfl (h0)
-- ReelOfBoxes$Writer.writeMoov(I)V : method 172
theorem d_172_0 : decode c_172 0 = .ok (.aload_n 0, 1) := by decide +kernel
theorem d_172_1 : decode c_172 1 = .ok (.iload_n 1, 1) := by decide +kernel
theorem d_172_2 : decode c_172 2 = .ok (.ldc 129, 2) := by decide +kernel
theorem d_172_4 : decode c_172 4 = .ok (.invokevirtual 125, 3) := by decide +kernel
theorem d_172_7 : decode c_172 7 = .ok (.iconst (0), 1) := by decide +kernel
theorem d_172_8 : decode c_172 8 = .ok (.istore_n 2, 1) := by decide +kernel
theorem d_172_9 : decode c_172 9 = .ok (.iload_n 2, 1) := by decide +kernel
theorem d_172_10 : decode c_172 10 = .ok (.iconst (3), 1) := by decide +kernel
theorem d_172_11 : decode c_172 11 = .ok (.if_icmp .ge (68), 3) := by decide +kernel
theorem d_172_14 : decode c_172 14 = .ok (.aload_n 0, 1) := by decide +kernel
theorem d_172_15 : decode c_172 15 = .ok (.getfield 26, 3) := by decide +kernel
theorem d_172_18 : decode c_172 18 = .ok (.iload_n 2, 1) := by decide +kernel
theorem d_172_19 : decode c_172 19 = .ok (.invokevirtual 98, 3) := by decide +kernel
theorem d_172_22 : decode c_172 22 = .ok (.astore_n 3, 1) := by decide +kernel
theorem d_172_23 : decode c_172 23 = .ok (.aload_n 3, 1) := by decide +kernel
theorem d_172_24 : decode c_172 24 = .ok (.ifnull (49), 3) := by decide +kernel
theorem d_172_27 : decode c_172 27 = .ok (.aload_n 0, 1) := by decide +kernel
theorem d_172_28 : decode c_172 28 = .ok (.bipush (8), 2) := by decide +kernel
theorem d_172_30 : decode c_172 30 = .ok (.aload_n 0, 1) := by decide +kernel
theorem d_172_31 : decode c_172 31 = .ok (.aload_n 3, 1) := by decide +kernel
theorem d_172_32 : decode c_172 32 = .ok (.invokevirtual 104, 3) := by decide +kernel
theorem d_172_35 : decode c_172 35 = .ok (.iadd, 1) := by decide +kernel
theorem d_172_36 : decode c_172 36 = .ok (.ldc 130, 2) := by decide +kernel
theorem d_172_38 : decode c_172 38 = .ok (.invokevirtual 125, 3) := by decide +kernel
theorem d_172_41 : decode c_172 41 = .ok (.aload_n 0, 1) := by decide +kernel
theorem d_172_42 : decode c_172 42 = .ok (.aload_n 0, 1) := by decide +kernel
theorem d_172_43 : decode c_172 43 = .ok (.aload_n 3, 1) := by decide +kernel
theorem d_172_44 : decode c_172 44 = .ok (.invokevirtual 104, 3) := by decide +kernel
theorem d_172_47 : decode c_172 47 = .ok (.ldc 131, 2) := by decide +kernel
theorem d_172_49 : decode c_172 49 = .ok (.invokevirtual 125, 3) := by decide +kernel
theorem d_172_52 : decode c_172 52 = .ok (.aload_n 0, 1) := by decide +kernel
theorem d_172_53 : decode c_172 53 = .ok (.aload_n 3, 1) := by decide +kernel
theorem d_172_54 : decode c_172 54 = .ok (.invokevirtual 132, 3) := by decide +kernel
theorem d_172_57 : decode c_172 57 = .ok (.aload_n 0, 1) := by decide +kernel
theorem d_172_58 : decode c_172 58 = .ok (.aload_n 3, 1) := by decide +kernel
theorem d_172_59 : decode c_172 59 = .ok (.invokevirtual 136, 3) := by decide +kernel
theorem d_172_62 : decode c_172 62 = .ok (.aload_n 0, 1) := by decide +kernel
theorem d_172_63 : decode c_172 63 = .ok (.aload_n 3, 1) := by decide +kernel
theorem d_172_64 : decode c_172 64 = .ok (.invokevirtual 139, 3) := by decide +kernel
theorem d_172_67 : decode c_172 67 = .ok (.aload_n 0, 1) := by decide +kernel
theorem d_172_68 : decode c_172 68 = .ok (.aload_n 3, 1) := by decide +kernel
theorem d_172_69 : decode c_172 69 = .ok (.iload_n 2, 1) := by decide +kernel
theorem d_172_70 : decode c_172 70 = .ok (.invokevirtual 142, 3) := by decide +kernel
theorem d_172_73 : decode c_172 73 = .ok (.iinc 2 (1), 3) := by decide +kernel
theorem d_172_76 : decode c_172 76 = .ok (.goto (-67), 3) := by decide +kernel
theorem d_172_79 : decode c_172 79 = .ok (.return_, 1) := by decide +kernel
set_option maxRecDepth 4000 in
theorem b_172_0 {mc ms : Nat} {X : Option (Nat × (Nat → Int32))} {T : aj_Tt} {Q : aj_Q} {J : aj_J} (hJ : aj_Cl 10 c_172 (none) false mc ms X T Q J) {o0 : Nat} {x1 : Int32} {Z : aj_Z} {I : aj_I} {G : aj_G} {C : Nat × Nat} (k0 : Z.2.1 o0 = some (.inl 10)) (h0 : T 0 0 170 [.ref o0, .int x1, .int 1836019574] Z I G (fun r Z1 I1 G1 => J 7 [some (.ref o0), some (.int x1), none, none] (r.toList ++ []) Z1 I1 G1 C)) : J 0 [some (.ref o0), some (.int x1), none, none] [] Z I G C := by
  refine s_aload_n hJ d_172_0 rfl ?_
  refine s_iload_n hJ d_172_1 rfl ?_
  refine s_ldc hJ lc_10_129 d_172_2 ?_
  exact s_V2 hJ lm_10_125 d_172_4 (Nat.le_of_ble_eq_true rfl) k0 (h0)
set_option maxRecDepth 4000 in
theorem b_172_7 {mc ms : Nat} {X : Option (Nat × (Nat → Int32))} {T : aj_Tt} {Q : aj_Q} {J : aj_J} (hJ : aj_Cl 10 c_172 (none) false mc ms X T Q J) {o0 : Nat} {w1 : Option Value} {w2 : Option Value} {w3 : Option Value} {Z : aj_Z} {I : aj_I} {G : aj_G} {C : Nat × Nat} (h0 : J 9 [some (.ref o0), (aj_clr w1), some (.int 0), w3] [] Z I G C) : J 7 [some (.ref o0), w1, w2, w3] [] Z I G C := by
  refine s_iconst_0 hJ d_172_7 ?_
  refine s_istore_n hJ d_172_8 (Nat.le_of_ble_eq_true rfl) ?_
  exact h0
set_option maxRecDepth 4000 in
theorem b_172_9 {mc ms : Nat} {X : Option (Nat × (Nat → Int32))} {T : aj_Tt} {Q : aj_Q} {J : aj_J} (hJ : aj_Cl 10 c_172 (none) false mc ms X T Q J) {o0 : Nat} {w1 : Option Value} {x2 : Int32} {w3 : Option Value} {q0 : Nat} {Z : aj_Z} {I : aj_I} {G : aj_G} {C : Nat × Nat} (h0 : 3 ≤ x2 → Q none Z I G) (k0 : Z.2.1 o0 = some (.inl 10)) (r0 : Z.2.2 o0 0 = .ref q0) (k1 : Z.2.1 q0 = some (.inl 6)) (h1 : ¬ 3 ≤ x2 → T 0 0 112 [.ref q0, .int x2] Z I G (fun r Z1 I1 G1 => J 22 [some (.ref o0), w1, some (.int x2), w3] (r.toList ++ []) Z1 I1 G1 C)) : J 9 [some (.ref o0), w1, some (.int x2), w3] [] Z I G C := by
  refine s_iload_n hJ d_172_9 rfl ?_
  refine s_iconst_3 hJ d_172_10 ?_
  refine s_icmp_ge (tgt := 79) hJ d_172_11 rfl (fun c0 => ?_) (fun c0 => ?_)
  · skip
    exact s_vret hJ d_172_79 rfl (h0 c0)
  · skip
    refine s_aload_n hJ d_172_14 rfl ?_
    refine s_getr hJ lf_10_26 rfl d_172_15 k0 r0 ?_
    refine s_iload_n hJ d_172_18 rfl ?_
    exact s_V1 hJ lm_10_98 d_172_19 (Nat.le_of_ble_eq_true rfl) k1 (h1 c0)
set_option maxRecDepth 4000 in
theorem b_172_22 {mc ms : Nat} {X : Option (Nat × (Nat → Int32))} {T : aj_Tt} {Q : aj_Q} {J : aj_J} (hJ : aj_Cl 10 c_172 (none) false mc ms X T Q J) {o0 : Nat} {w1 : Option Value} {x2 : Int32} {w3 : Option Value} {s0 : Nat} {Z : aj_Z} {I : aj_I} {G : aj_G} {C : Nat × Nat} (k0 : Z.2.1 o0 = some (.inl 10)) (h0 : T 0 0 165 [.ref o0, .ref s0] Z I G (fun r Z1 I1 G1 => J 35 [some (.ref o0), w1, some (.int x2), some (.ref s0)] (r.toList ++ [.int 8, .ref o0]) Z1 I1 G1 C)) : J 22 [some (.ref o0), w1, some (.int x2), w3] [.ref s0] Z I G C := by
  refine s_astore_n hJ d_172_22 (Nat.le_of_ble_eq_true rfl) ?_
  refine s_aload_n hJ d_172_23 rfl ?_
  refine s_ifnull hJ d_172_24 ?_
  refine s_aload_n hJ d_172_27 rfl ?_
  refine s_bipush (v := 8) hJ d_172_28 (by decide) ?_
  refine s_aload_n hJ d_172_30 rfl ?_
  refine s_aload_n hJ d_172_31 rfl ?_
  exact s_V1 hJ lm_10_104 d_172_32 (Nat.le_of_ble_eq_true rfl) k0 (h0)
set_option maxRecDepth 4000 in
theorem b_172_22N {mc ms : Nat} {X : Option (Nat × (Nat → Int32))} {T : aj_Tt} {Q : aj_Q} {J : aj_J} (hJ : aj_Cl 10 c_172 (none) false mc ms X T Q J) {o0 : Nat} {w1 : Option Value} {x2 : Int32} {w3 : Option Value} {Z : aj_Z} {I : aj_I} {G : aj_G} {C : Nat × Nat} (h0 : J 73 [some (.ref o0), w1, some (.int x2), some (.null)] [] Z I G C) : J 22 [some (.ref o0), w1, some (.int x2), w3] [.null] Z I G C := by
  refine s_astore_nN hJ d_172_22 (Nat.le_of_ble_eq_true rfl) ?_
  refine s_aload_nN hJ d_172_23 rfl ?_
  refine s_ifnullN (tgt := 73) hJ d_172_24 rfl ?_
  exact h0
set_option maxRecDepth 4000 in
theorem b_172_35 {mc ms : Nat} {X : Option (Nat × (Nat → Int32))} {T : aj_Tt} {Q : aj_Q} {J : aj_J} (hJ : aj_Cl 10 c_172 (none) false mc ms X T Q J) {o0 : Nat} {w1 : Option Value} {x2 : Int32} {o3 : Nat} {s0 : Int32} {s1 : Int32} {s2 : Nat} {Z : aj_Z} {I : aj_I} {G : aj_G} {C : Nat × Nat} (k0 : Z.2.1 s2 = some (.inl 10)) (h0 : T 0 0 170 [.ref s2, .int (s1 + s0), .int 1953653099] Z I G (fun r Z1 I1 G1 => J 41 [some (.ref o0), w1, some (.int x2), some (.ref o3)] (r.toList ++ []) Z1 I1 G1 C)) : J 35 [some (.ref o0), w1, some (.int x2), some (.ref o3)] [.int s0, .int s1, .ref s2] Z I G C := by
  refine s_iadd hJ d_172_35 ?_
  refine s_ldc hJ lc_10_130 d_172_36 ?_
  exact s_V2 hJ lm_10_125 d_172_38 (Nat.le_of_ble_eq_true rfl) k0 (h0)
set_option maxRecDepth 4000 in
theorem b_172_41 {mc ms : Nat} {X : Option (Nat × (Nat → Int32))} {T : aj_Tt} {Q : aj_Q} {J : aj_J} (hJ : aj_Cl 10 c_172 (none) false mc ms X T Q J) {o0 : Nat} {w1 : Option Value} {x2 : Int32} {o3 : Nat} {Z : aj_Z} {I : aj_I} {G : aj_G} {C : Nat × Nat} (k0 : Z.2.1 o0 = some (.inl 10)) (h0 : T 0 0 165 [.ref o0, .ref o3] Z I G (fun r Z1 I1 G1 => J 47 [some (.ref o0), w1, some (.int x2), some (.ref o3)] (r.toList ++ [.ref o0]) Z1 I1 G1 C)) : J 41 [some (.ref o0), w1, some (.int x2), some (.ref o3)] [] Z I G C := by
  refine s_aload_n hJ d_172_41 rfl ?_
  refine s_aload_n hJ d_172_42 rfl ?_
  refine s_aload_n hJ d_172_43 rfl ?_
  exact s_V1 hJ lm_10_104 d_172_44 (Nat.le_of_ble_eq_true rfl) k0 (h0)
set_option maxRecDepth 4000 in
theorem b_172_47 {mc ms : Nat} {X : Option (Nat × (Nat → Int32))} {T : aj_Tt} {Q : aj_Q} {J : aj_J} (hJ : aj_Cl 10 c_172 (none) false mc ms X T Q J) {o0 : Nat} {w1 : Option Value} {x2 : Int32} {o3 : Nat} {s0 : Int32} {s1 : Nat} {Z : aj_Z} {I : aj_I} {G : aj_G} {C : Nat × Nat} (k0 : Z.2.1 s1 = some (.inl 10)) (h0 : T 0 0 170 [.ref s1, .int s0, .int 1937007212] Z I G (fun r Z1 I1 G1 => J 52 [some (.ref o0), w1, some (.int x2), some (.ref o3)] (r.toList ++ []) Z1 I1 G1 C)) : J 47 [some (.ref o0), w1, some (.int x2), some (.ref o3)] [.int s0, .ref s1] Z I G C := by
  refine s_ldc hJ lc_10_131 d_172_47 ?_
  exact s_V2 hJ lm_10_125 d_172_49 (Nat.le_of_ble_eq_true rfl) k0 (h0)
set_option maxRecDepth 4000 in
theorem b_172_52 {mc ms : Nat} {X : Option (Nat × (Nat → Int32))} {T : aj_Tt} {Q : aj_Q} {J : aj_J} (hJ : aj_Cl 10 c_172 (none) false mc ms X T Q J) {o0 : Nat} {w1 : Option Value} {x2 : Int32} {o3 : Nat} {Z : aj_Z} {I : aj_I} {G : aj_G} {C : Nat × Nat} (k0 : Z.2.1 o0 = some (.inl 10)) (h0 : T 0 0 173 [.ref o0, .ref o3] Z I G (fun r Z1 I1 G1 => J 57 [some (.ref o0), w1, some (.int x2), some (.ref o3)] (r.toList ++ []) Z1 I1 G1 C)) : J 52 [some (.ref o0), w1, some (.int x2), some (.ref o3)] [] Z I G C := by
  refine s_aload_n hJ d_172_52 rfl ?_
  refine s_aload_n hJ d_172_53 rfl ?_
  exact s_V1 hJ lm_10_132 d_172_54 (Nat.le_of_ble_eq_true rfl) k0 (h0)
set_option maxRecDepth 4000 in
theorem b_172_57 {mc ms : Nat} {X : Option (Nat × (Nat → Int32))} {T : aj_Tt} {Q : aj_Q} {J : aj_J} (hJ : aj_Cl 10 c_172 (none) false mc ms X T Q J) {o0 : Nat} {w1 : Option Value} {x2 : Int32} {o3 : Nat} {Z : aj_Z} {I : aj_I} {G : aj_G} {C : Nat × Nat} (k0 : Z.2.1 o0 = some (.inl 10)) (h0 : T 0 0 174 [.ref o0, .ref o3] Z I G (fun r Z1 I1 G1 => J 62 [some (.ref o0), w1, some (.int x2), some (.ref o3)] (r.toList ++ []) Z1 I1 G1 C)) : J 57 [some (.ref o0), w1, some (.int x2), some (.ref o3)] [] Z I G C := by
  refine s_aload_n hJ d_172_57 rfl ?_
  refine s_aload_n hJ d_172_58 rfl ?_
  exact s_V1 hJ lm_10_136 d_172_59 (Nat.le_of_ble_eq_true rfl) k0 (h0)
set_option maxRecDepth 4000 in
theorem b_172_62 {mc ms : Nat} {X : Option (Nat × (Nat → Int32))} {T : aj_Tt} {Q : aj_Q} {J : aj_J} (hJ : aj_Cl 10 c_172 (none) false mc ms X T Q J) {o0 : Nat} {w1 : Option Value} {x2 : Int32} {o3 : Nat} {Z : aj_Z} {I : aj_I} {G : aj_G} {C : Nat × Nat} (k0 : Z.2.1 o0 = some (.inl 10)) (h0 : T 0 0 176 [.ref o0, .ref o3] Z I G (fun r Z1 I1 G1 => J 67 [some (.ref o0), w1, some (.int x2), some (.ref o3)] (r.toList ++ []) Z1 I1 G1 C)) : J 62 [some (.ref o0), w1, some (.int x2), some (.ref o3)] [] Z I G C := by
  refine s_aload_n hJ d_172_62 rfl ?_
  refine s_aload_n hJ d_172_63 rfl ?_
  exact s_V1 hJ lm_10_139 d_172_64 (Nat.le_of_ble_eq_true rfl) k0 (h0)
set_option maxRecDepth 4000 in
theorem b_172_67 {mc ms : Nat} {X : Option (Nat × (Nat → Int32))} {T : aj_Tt} {Q : aj_Q} {J : aj_J} (hJ : aj_Cl 10 c_172 (none) false mc ms X T Q J) {o0 : Nat} {w1 : Option Value} {x2 : Int32} {o3 : Nat} {Z : aj_Z} {I : aj_I} {G : aj_G} {C : Nat × Nat} (k0 : Z.2.1 o0 = some (.inl 10)) (h0 : T 0 0 177 [.ref o0, .ref o3, .int x2] Z I G (fun r Z1 I1 G1 => J 73 [some (.ref o0), w1, some (.int x2), some (.ref o3)] (r.toList ++ []) Z1 I1 G1 C)) : J 67 [some (.ref o0), w1, some (.int x2), some (.ref o3)] [] Z I G C := by
  refine s_aload_n hJ d_172_67 rfl ?_
  refine s_aload_n hJ d_172_68 rfl ?_
  refine s_iload_n hJ d_172_69 rfl ?_
  exact s_V2 hJ lm_10_142 d_172_70 (Nat.le_of_ble_eq_true rfl) k0 (h0)
set_option maxRecDepth 4000 in
theorem b_172_73 {mc ms : Nat} {X : Option (Nat × (Nat → Int32))} {T : aj_Tt} {Q : aj_Q} {J : aj_J} (hJ : aj_Cl 10 c_172 (none) false mc ms X T Q J) {o0 : Nat} {w1 : Option Value} {x2 : Int32} {w3 : Option Value} {Z : aj_Z} {I : aj_I} {G : aj_G} {C : Nat × Nat} (h0 : J 9 [some (.ref o0), (aj_clr w1), some (.int (x2 + 1)), w3] [] Z I G C) : J 73 [some (.ref o0), w1, some (.int x2), w3] [] Z I G C := by
  refine s_iinc (v := 1) hJ d_172_73 rfl (by decide) ?_
  refine s_goto (tgt := 9) hJ d_172_76 rfl ?_
  exact h0
-- ReelOfBoxes$Writer.writeStts(LReelOfBoxes$Track;)V : method 173
theorem d_173_0 : decode c_173 0 = .ok (.aload_n 0, 1) := by decide +kernel
theorem d_173_1 : decode c_173 1 = .ok (.ldc 146, 2) := by decide +kernel
theorem d_173_3 : decode c_173 3 = .ok (.aload_n 0, 1) := by decide +kernel
theorem d_173_4 : decode c_173 4 = .ok (.aload_n 1, 1) := by decide +kernel
theorem d_173_5 : decode c_173 5 = .ok (.invokevirtual 82, 3) := by decide +kernel
theorem d_173_8 : decode c_173 8 = .ok (.bipush (8), 2) := by decide +kernel
theorem d_173_10 : decode c_173 10 = .ok (.invokevirtual 147, 3) := by decide +kernel
theorem d_173_13 : decode c_173 13 = .ok (.aload_n 1, 1) := by decide +kernel
theorem d_173_14 : decode c_173 14 = .ok (.invokevirtual 64, 3) := by decide +kernel
theorem d_173_17 : decode c_173 17 = .ok (.istore_n 2, 1) := by decide +kernel
theorem d_173_18 : decode c_173 18 = .ok (.iconst (0), 1) := by decide +kernel
theorem d_173_19 : decode c_173 19 = .ok (.istore_n 3, 1) := by decide +kernel
theorem d_173_20 : decode c_173 20 = .ok (.iload_n 3, 1) := by decide +kernel
theorem d_173_21 : decode c_173 21 = .ok (.iload_n 2, 1) := by decide +kernel
theorem d_173_22 : decode c_173 22 = .ok (.if_icmp .ge (39), 3) := by decide +kernel
theorem d_173_25 : decode c_173 25 = .ok (.aload_n 0, 1) := by decide +kernel
theorem d_173_26 : decode c_173 26 = .ok (.aload_n 1, 1) := by decide +kernel
theorem d_173_27 : decode c_173 27 = .ok (.iload_n 3, 1) := by decide +kernel
theorem d_173_28 : decode c_173 28 = .ok (.invokevirtual 75, 3) := by decide +kernel
theorem d_173_31 : decode c_173 31 = .ok (.ifCond .eq (24), 3) := by decide +kernel
theorem d_173_34 : decode c_173 34 = .ok (.aload_n 0, 1) := by decide +kernel
theorem d_173_35 : decode c_173 35 = .ok (.aload_n 0, 1) := by decide +kernel
theorem d_173_36 : decode c_173 36 = .ok (.aload_n 1, 1) := by decide +kernel
theorem d_173_37 : decode c_173 37 = .ok (.iload_n 3, 1) := by decide +kernel
theorem d_173_38 : decode c_173 38 = .ok (.invokevirtual 151, 3) := by decide +kernel
theorem d_173_41 : decode c_173 41 = .ok (.i2l, 1) := by decide +kernel
theorem d_173_42 : decode c_173 42 = .ok (.invokevirtual 121, 3) := by decide +kernel
theorem d_173_45 : decode c_173 45 = .ok (.aload_n 0, 1) := by decide +kernel
theorem d_173_46 : decode c_173 46 = .ok (.aload_n 1, 1) := by decide +kernel
theorem d_173_47 : decode c_173 47 = .ok (.iload_n 3, 1) := by decide +kernel
theorem d_173_48 : decode c_173 48 = .ok (.invokevirtual 72, 3) := by decide +kernel
theorem d_173_51 : decode c_173 51 = .ok (.i2l, 1) := by decide +kernel
theorem d_173_52 : decode c_173 52 = .ok (.invokevirtual 121, 3) := by decide +kernel
theorem d_173_55 : decode c_173 55 = .ok (.iinc 3 (1), 3) := by decide +kernel
theorem d_173_58 : decode c_173 58 = .ok (.goto (-38), 3) := by decide +kernel
theorem d_173_61 : decode c_173 61 = .ok (.return_, 1) := by decide +kernel
set_option maxRecDepth 4000 in
theorem b_173_0 {mc ms : Nat} {X : Option (Nat × (Nat → Int32))} {T : aj_Tt} {Q : aj_Q} {J : aj_J} (hJ : aj_Cl 10 c_173 (none) false mc ms X T Q J) {o0 : Nat} {o1 : Nat} {Z : aj_Z} {I : aj_I} {G : aj_G} {C : Nat × Nat} (k0 : Z.2.1 o0 = some (.inl 10)) (h0 : T 0 0 160 [.ref o0, .ref o1] Z I G (fun r Z1 I1 G1 => J 8 [some (.ref o0), some (.ref o1), none, none] (r.toList ++ [.int 1937011827, .ref o0]) Z1 I1 G1 C)) : J 0 [some (.ref o0), some (.ref o1), none, none] [] Z I G C := by
  refine s_aload_n hJ d_173_0 rfl ?_
  refine s_ldc hJ lc_10_146 d_173_1 ?_
  refine s_aload_n hJ d_173_3 rfl ?_
  refine s_aload_n hJ d_173_4 rfl ?_
  exact s_V1 hJ lm_10_82 d_173_5 (Nat.le_of_ble_eq_true rfl) k0 (h0)
set_option maxRecDepth 4000 in
theorem b_173_8 {mc ms : Nat} {X : Option (Nat × (Nat → Int32))} {T : aj_Tt} {Q : aj_Q} {J : aj_J} (hJ : aj_Cl 10 c_173 (none) false mc ms X T Q J) {o0 : Nat} {o1 : Nat} {w2 : Option Value} {w3 : Option Value} {s0 : Int32} {s1 : Int32} {s2 : Nat} {Z : aj_Z} {I : aj_I} {G : aj_G} {C : Nat × Nat} (k0 : Z.2.1 s2 = some (.inl 10)) (h0 : T 0 0 171 [.ref s2, .int s1, .int s0, .int 8] Z I G (fun r Z1 I1 G1 => J 13 [some (.ref o0), some (.ref o1), w2, w3] (r.toList ++ []) Z1 I1 G1 C)) : J 8 [some (.ref o0), some (.ref o1), w2, w3] [.int s0, .int s1, .ref s2] Z I G C := by
  refine s_bipush (v := 8) hJ d_173_8 (by decide) ?_
  exact s_V3 hJ lm_10_147 d_173_10 (Nat.le_of_ble_eq_true rfl) k0 (h0)
set_option maxRecDepth 4000 in
theorem b_173_13 {mc ms : Nat} {X : Option (Nat × (Nat → Int32))} {T : aj_Tt} {Q : aj_Q} {J : aj_J} (hJ : aj_Cl 10 c_173 (none) false mc ms X T Q J) {o0 : Nat} {o1 : Nat} {w2 : Option Value} {w3 : Option Value} {Z : aj_Z} {I : aj_I} {G : aj_G} {C : Nat × Nat} (k0 : Z.2.1 o1 = some (.inl 8)) (h0 : T 0 0 130 [.ref o1] Z I G (fun r Z1 I1 G1 => J 17 [some (.ref o0), some (.ref o1), w2, w3] (r.toList ++ []) Z1 I1 G1 C)) : J 13 [some (.ref o0), some (.ref o1), w2, w3] [] Z I G C := by
  refine s_aload_n hJ d_173_13 rfl ?_
  exact s_V0 hJ lm_10_64 d_173_14 (Nat.le_of_ble_eq_true rfl) k0 (h0)
set_option maxRecDepth 4000 in
theorem b_173_17 {mc ms : Nat} {X : Option (Nat × (Nat → Int32))} {T : aj_Tt} {Q : aj_Q} {J : aj_J} (hJ : aj_Cl 10 c_173 (none) false mc ms X T Q J) {o0 : Nat} {o1 : Nat} {w2 : Option Value} {w3 : Option Value} {s0 : Int32} {Z : aj_Z} {I : aj_I} {G : aj_G} {C : Nat × Nat} (h0 : J 20 [some (.ref o0), some (.ref o1), some (.int s0), some (.int 0)] [] Z I G C) : J 17 [some (.ref o0), some (.ref o1), w2, w3] [.int s0] Z I G C := by
  refine s_istore_n hJ d_173_17 (Nat.le_of_ble_eq_true rfl) ?_
  refine s_iconst_0 hJ d_173_18 ?_
  refine s_istore_n hJ d_173_19 (Nat.le_of_ble_eq_true rfl) ?_
  exact h0
set_option maxRecDepth 4000 in
theorem b_173_20 {mc ms : Nat} {X : Option (Nat × (Nat → Int32))} {T : aj_Tt} {Q : aj_Q} {J : aj_J} (hJ : aj_Cl 10 c_173 (none) false mc ms X T Q J) {o0 : Nat} {o1 : Nat} {x2 : Int32} {x3 : Int32} {Z : aj_Z} {I : aj_I} {G : aj_G} {C : Nat × Nat} (h0 : x2 ≤ x3 → Q none Z I G) (k0 : Z.2.1 o0 = some (.inl 10)) (h1 : ¬ x2 ≤ x3 → T 0 0 158 [.ref o0, .ref o1, .int x3] Z I G (fun r Z1 I1 G1 => J 31 [some (.ref o0), some (.ref o1), some (.int x2), some (.int x3)] (r.toList ++ []) Z1 I1 G1 C)) : J 20 [some (.ref o0), some (.ref o1), some (.int x2), some (.int x3)] [] Z I G C := by
  refine s_iload_n hJ d_173_20 rfl ?_
  refine s_iload_n hJ d_173_21 rfl ?_
  refine s_icmp_ge (tgt := 61) hJ d_173_22 rfl (fun c0 => ?_) (fun c0 => ?_)
  · skip
    exact s_vret hJ d_173_61 rfl (h0 c0)
  · skip
    refine s_aload_n hJ d_173_25 rfl ?_
    refine s_aload_n hJ d_173_26 rfl ?_
    refine s_iload_n hJ d_173_27 rfl ?_
    exact s_V2 hJ lm_10_75 d_173_28 (Nat.le_of_ble_eq_true rfl) k0 (h1 c0)
set_option maxRecDepth 4000 in
theorem b_173_31 {mc ms : Nat} {X : Option (Nat × (Nat → Int32))} {T : aj_Tt} {Q : aj_Q} {J : aj_J} (hJ : aj_Cl 10 c_173 (none) false mc ms X T Q J) {o0 : Nat} {o1 : Nat} {x2 : Int32} {x3 : Int32} {s0 : Int32} {Z : aj_Z} {I : aj_I} {G : aj_G} {C : Nat × Nat} (h0 : s0 = 0 → J 55 [some (.ref o0), some (.ref o1), some (.int x2), some (.int x3)] [] Z I G C) (k0 : Z.2.1 o0 = some (.inl 10)) (h1 : ¬ s0 = 0 → T 0 0 159 [.ref o0, .ref o1, .int x3] Z I G (fun r Z1 I1 G1 => J 41 [some (.ref o0), some (.ref o1), some (.int x2), some (.int x3)] (r.toList ++ [.ref o0]) Z1 I1 G1 C)) : J 31 [some (.ref o0), some (.ref o1), some (.int x2), some (.int x3)] [.int s0] Z I G C := by
  refine s_if_eq (tgt := 55) hJ d_173_31 rfl (fun c0 => ?_) (fun c0 => ?_)
  · skip
    exact h0 c0
  · skip
    refine s_aload_n hJ d_173_34 rfl ?_
    refine s_aload_n hJ d_173_35 rfl ?_
    refine s_aload_n hJ d_173_36 rfl ?_
    refine s_iload_n hJ d_173_37 rfl ?_
    exact s_V2 hJ lm_10_151 d_173_38 (Nat.le_of_ble_eq_true rfl) k0 (h1 c0)
set_option maxRecDepth 4000 in
theorem b_173_41 {mc ms : Nat} {X : Option (Nat × (Nat → Int32))} {T : aj_Tt} {Q : aj_Q} {J : aj_J} (hJ : aj_Cl 10 c_173 (none) false mc ms X T Q J) {o0 : Nat} {o1 : Nat} {x2 : Int32} {x3 : Int32} {s0 : Int32} {s1 : Nat} {Z : aj_Z} {I : aj_I} {G : aj_G} {C : Nat × Nat} (k0 : Z.2.1 s1 = some (.inl 10)) (h0 : T 0 0 169 [.ref s1, .long (Int32.toInt64 s0)] Z I G (fun r Z1 I1 G1 => J 45 [some (.ref o0), some (.ref o1), some (.int x2), some (.int x3)] (r.toList ++ []) Z1 I1 G1 C)) : J 41 [some (.ref o0), some (.ref o1), some (.int x2), some (.int x3)] [.int s0, .ref s1] Z I G C := by
  refine s_i2l hJ d_173_41 ?_
  exact s_V1 hJ lm_10_121 d_173_42 (Nat.le_of_ble_eq_true rfl) k0 (h0)
set_option maxRecDepth 4000 in
theorem b_173_45 {mc ms : Nat} {X : Option (Nat × (Nat → Int32))} {T : aj_Tt} {Q : aj_Q} {J : aj_J} (hJ : aj_Cl 10 c_173 (none) false mc ms X T Q J) {o0 : Nat} {o1 : Nat} {x2 : Int32} {x3 : Int32} {Z : aj_Z} {I : aj_I} {G : aj_G} {C : Nat × Nat} (k0 : Z.2.1 o1 = some (.inl 8)) (h0 : T 0 0 134 [.ref o1, .int x3] Z I G (fun r Z1 I1 G1 => J 51 [some (.ref o0), some (.ref o1), some (.int x2), some (.int x3)] (r.toList ++ [.ref o0]) Z1 I1 G1 C)) : J 45 [some (.ref o0), some (.ref o1), some (.int x2), some (.int x3)] [] Z I G C := by
  refine s_aload_n hJ d_173_45 rfl ?_
  refine s_aload_n hJ d_173_46 rfl ?_
  refine s_iload_n hJ d_173_47 rfl ?_
  exact s_V1 hJ lm_10_72 d_173_48 (Nat.le_of_ble_eq_true rfl) k0 (h0)
set_option maxRecDepth 4000 in
theorem b_173_51 {mc ms : Nat} {X : Option (Nat × (Nat → Int32))} {T : aj_Tt} {Q : aj_Q} {J : aj_J} (hJ : aj_Cl 10 c_173 (none) false mc ms X T Q J) {o0 : Nat} {o1 : Nat} {x2 : Int32} {x3 : Int32} {s0 : Int32} {s1 : Nat} {Z : aj_Z} {I : aj_I} {G : aj_G} {C : Nat × Nat} (k0 : Z.2.1 s1 = some (.inl 10)) (h0 : T 0 0 169 [.ref s1, .long (Int32.toInt64 s0)] Z I G (fun r Z1 I1 G1 => J 55 [some (.ref o0), some (.ref o1), some (.int x2), some (.int x3)] (r.toList ++ []) Z1 I1 G1 C)) : J 51 [some (.ref o0), some (.ref o1), some (.int x2), some (.int x3)] [.int s0, .ref s1] Z I G C := by
  refine s_i2l hJ d_173_51 ?_
  exact s_V1 hJ lm_10_121 d_173_52 (Nat.le_of_ble_eq_true rfl) k0 (h0)
set_option maxRecDepth 4000 in
theorem b_173_55 {mc ms : Nat} {X : Option (Nat × (Nat → Int32))} {T : aj_Tt} {Q : aj_Q} {J : aj_J} (hJ : aj_Cl 10 c_173 (none) false mc ms X T Q J) {o0 : Nat} {o1 : Nat} {x2 : Int32} {x3 : Int32} {Z : aj_Z} {I : aj_I} {G : aj_G} {C : Nat × Nat} (h0 : J 20 [some (.ref o0), some (.ref o1), some (.int x2), some (.int (x3 + 1))] [] Z I G C) : J 55 [some (.ref o0), some (.ref o1), some (.int x2), some (.int x3)] [] Z I G C := by
  refine s_iinc (v := 1) hJ d_173_55 rfl (by decide) ?_
  refine s_goto (tgt := 20) hJ d_173_58 rfl ?_
  exact h0
-- ReelOfBoxes$Writer.writeStsc(LReelOfBoxes$Track;)V : method 174
theorem d_174_0 : decode c_174 0 = .ok (.aload_n 0, 1) := by decide +kernel
theorem d_174_1 : decode c_174 1 = .ok (.aload_n 1, 1) := by decide +kernel
theorem d_174_2 : decode c_174 2 = .ok (.invokevirtual 86, 3) := by decide +kernel
theorem d_174_5 : decode c_174 5 = .ok (.istore_n 2, 1) := by decide +kernel
theorem d_174_6 : decode c_174 6 = .ok (.aload_n 0, 1) := by decide +kernel
theorem d_174_7 : decode c_174 7 = .ok (.ldc 154, 2) := by decide +kernel
theorem d_174_9 : decode c_174 9 = .ok (.iload_n 2, 1) := by decide +kernel
theorem d_174_10 : decode c_174 10 = .ok (.bipush (12), 2) := by decide +kernel
theorem d_174_12 : decode c_174 12 = .ok (.invokevirtual 147, 3) := by decide +kernel
theorem d_174_15 : decode c_174 15 = .ok (.iload_n 2, 1) := by decide +kernel
theorem d_174_16 : decode c_174 16 = .ok (.ifCond .le (9), 3) := by decide +kernel
theorem d_174_19 : decode c_174 19 = .ok (.aload_n 0, 1) := by decide +kernel
theorem d_174_20 : decode c_174 20 = .ok (.aload_n 1, 1) := by decide +kernel
theorem d_174_21 : decode c_174 21 = .ok (.iconst (0), 1) := by decide +kernel
theorem d_174_22 : decode c_174 22 = .ok (.invokevirtual 155, 3) := by decide +kernel
theorem d_174_25 : decode c_174 25 = .ok (.iload_n 2, 1) := by decide +kernel
theorem d_174_26 : decode c_174 26 = .ok (.iconst (1), 1) := by decide +kernel
theorem d_174_27 : decode c_174 27 = .ok (.if_icmp .le (15), 3) := by decide +kernel
theorem d_174_30 : decode c_174 30 = .ok (.aload_n 0, 1) := by decide +kernel
theorem d_174_31 : decode c_174 31 = .ok (.aload_n 1, 1) := by decide +kernel
theorem d_174_32 : decode c_174 32 = .ok (.aload_n 0, 1) := by decide +kernel
theorem d_174_33 : decode c_174 33 = .ok (.aload_n 1, 1) := by decide +kernel
theorem d_174_34 : decode c_174 34 = .ok (.invokevirtual 92, 3) := by decide +kernel
theorem d_174_37 : decode c_174 37 = .ok (.iconst (1), 1) := by decide +kernel
theorem d_174_38 : decode c_174 38 = .ok (.isub, 1) := by decide +kernel
theorem d_174_39 : decode c_174 39 = .ok (.invokevirtual 155, 3) := by decide +kernel
theorem d_174_42 : decode c_174 42 = .ok (.return_, 1) := by decide +kernel
set_option maxRecDepth 4000 in
theorem b_174_0 {mc ms : Nat} {X : Option (Nat × (Nat → Int32))} {T : aj_Tt} {Q : aj_Q} {J : aj_J} (hJ : aj_Cl 10 c_174 (none) false mc ms X T Q J) {o0 : Nat} {o1 : Nat} {Z : aj_Z} {I : aj_I} {G : aj_G} {C : Nat × Nat} (k0 : Z.2.1 o0 = some (.inl 10)) (h0 : T 0 0 161 [.ref o0, .ref o1] Z I G (fun r Z1 I1 G1 => J 5 [some (.ref o0), some (.ref o1), none] (r.toList ++ []) Z1 I1 G1 C)) : J 0 [some (.ref o0), some (.ref o1), none] [] Z I G C := by
  refine s_aload_n hJ d_174_0 rfl ?_
  refine s_aload_n hJ d_174_1 rfl ?_
  exact s_V1 hJ lm_10_86 d_174_2 (Nat.le_of_ble_eq_true rfl) k0 (h0)
set_option maxRecDepth 4000 in
theorem b_174_5 {mc ms : Nat} {X : Option (Nat × (Nat → Int32))} {T : aj_Tt} {Q : aj_Q} {J : aj_J} (hJ : aj_Cl 10 c_174 (none) false mc ms X T Q J) {o0 : Nat} {o1 : Nat} {w2 : Option Value} {s0 : Int32} {Z : aj_Z} {I : aj_I} {G : aj_G} {C : Nat × Nat} (k0 : Z.2.1 o0 = some (.inl 10)) (h0 : T 0 0 171 [.ref o0, .int 1937011555, .int s0, .int 12] Z I G (fun r Z1 I1 G1 => J 15 [some (.ref o0), some (.ref o1), some (.int s0)] (r.toList ++ []) Z1 I1 G1 C)) : J 5 [some (.ref o0), some (.ref o1), w2] [.int s0] Z I G C := by
  refine s_istore_n hJ d_174_5 (Nat.le_of_ble_eq_true rfl) ?_
  refine s_aload_n hJ d_174_6 rfl ?_
  refine s_ldc hJ lc_10_154 d_174_7 ?_
  refine s_iload_n hJ d_174_9 rfl ?_
  refine s_bipush (v := 12) hJ d_174_10 (by decide) ?_
  exact s_V3 hJ lm_10_147 d_174_12 (Nat.le_of_ble_eq_true rfl) k0 (h0)
set_option maxRecDepth 4000 in
theorem b_174_15 {mc ms : Nat} {X : Option (Nat × (Nat → Int32))} {T : aj_Tt} {Q : aj_Q} {J : aj_J} (hJ : aj_Cl 10 c_174 (none) false mc ms X T Q J) {o0 : Nat} {o1 : Nat} {x2 : Int32} {Z : aj_Z} {I : aj_I} {G : aj_G} {C : Nat × Nat} (h0 : x2 ≤ 0 → J 25 [some (.ref o0), some (.ref o1), some (.int x2)] [] Z I G C) (k0 : Z.2.1 o0 = some (.inl 10)) (h1 : ¬ x2 ≤ 0 → T 0 0 175 [.ref o0, .ref o1, .int 0] Z I G (fun r Z1 I1 G1 => J 25 [some (.ref o0), some (.ref o1), some (.int x2)] (r.toList ++ []) Z1 I1 G1 C)) : J 15 [some (.ref o0), some (.ref o1), some (.int x2)] [] Z I G C := by
  refine s_iload_n hJ d_174_15 rfl ?_
  refine s_if_le (tgt := 25) hJ d_174_16 rfl (fun c0 => ?_) (fun c0 => ?_)
  · skip
    exact h0 c0
  · skip
    refine s_aload_n hJ d_174_19 rfl ?_
    refine s_aload_n hJ d_174_20 rfl ?_
    refine s_iconst_0 hJ d_174_21 ?_
    exact s_V2 hJ lm_10_155 d_174_22 (Nat.le_of_ble_eq_true rfl) k0 (h1 c0)
set_option maxRecDepth 4000 in
theorem b_174_25 {mc ms : Nat} {X : Option (Nat × (Nat → Int32))} {T : aj_Tt} {Q : aj_Q} {J : aj_J} (hJ : aj_Cl 10 c_174 (none) false mc ms X T Q J) {o0 : Nat} {o1 : Nat} {x2 : Int32} {Z : aj_Z} {I : aj_I} {G : aj_G} {C : Nat × Nat} (h0 : x2 ≤ 1 → J 42 [some (.ref o0), some (.ref o1), some (.int x2)] [] Z I G C) (k0 : Z.2.1 o0 = some (.inl 10)) (h1 : ¬ x2 ≤ 1 → T 0 0 156 [.ref o0, .ref o1] Z I G (fun r Z1 I1 G1 => J 37 [some (.ref o0), some (.ref o1), some (.int x2)] (r.toList ++ [.ref o1, .ref o0]) Z1 I1 G1 C)) : J 25 [some (.ref o0), some (.ref o1), some (.int x2)] [] Z I G C := by
  refine s_iload_n hJ d_174_25 rfl ?_
  refine s_iconst_1 hJ d_174_26 ?_
  refine s_icmp_le (tgt := 42) hJ d_174_27 rfl (fun c0 => ?_) (fun c0 => ?_)
  · skip
    exact h0 c0
  · skip
    refine s_aload_n hJ d_174_30 rfl ?_
    refine s_aload_n hJ d_174_31 rfl ?_
    refine s_aload_n hJ d_174_32 rfl ?_
    refine s_aload_n hJ d_174_33 rfl ?_
    exact s_V1 hJ lm_10_92 d_174_34 (Nat.le_of_ble_eq_true rfl) k0 (h1 c0)
set_option maxRecDepth 4000 in
theorem b_174_37 {mc ms : Nat} {X : Option (Nat × (Nat → Int32))} {T : aj_Tt} {Q : aj_Q} {J : aj_J} (hJ : aj_Cl 10 c_174 (none) false mc ms X T Q J) {w0 : Option Value} {w1 : Option Value} {w2 : Option Value} {s0 : Int32} {s1 : Nat} {s2 : Nat} {Z : aj_Z} {I : aj_I} {G : aj_G} {C : Nat × Nat} (k0 : Z.2.1 s2 = some (.inl 10)) (h0 : T 0 0 175 [.ref s2, .ref s1, .int (s0 - 1)] Z I G (fun r Z1 I1 G1 => J 42 [w0, w1, w2] (r.toList ++ []) Z1 I1 G1 C)) : J 37 [w0, w1, w2] [.int s0, .ref s1, .ref s2] Z I G C := by
  refine s_iconst_1 hJ d_174_37 ?_
  refine s_isub hJ d_174_38 ?_
  exact s_V2 hJ lm_10_155 d_174_39 (Nat.le_of_ble_eq_true rfl) k0 (h0)
set_option maxRecDepth 4000 in
theorem b_174_42 {mc ms : Nat} {X : Option (Nat × (Nat → Int32))} {T : aj_Tt} {Q : aj_Q} {J : aj_J} (hJ : aj_Cl 10 c_174 (none) false mc ms X T Q J) {w0 : Option Value} {w1 : Option Value} {w2 : Option Value} {Z : aj_Z} {I : aj_I} {G : aj_G} {C : Nat × Nat} (h0 : Q none Z I G) : J 42 [w0, w1, w2] [] Z I G C := by
  exact s_vret hJ d_174_42 rfl (h0)
-- ReelOfBoxes$Writer.putStscEntry(LReelOfBoxes$Track;I)V : method 175
theorem d_175_0 : decode c_175 0 = .ok (.aload_n 0, 1) := by decide +kernel
theorem d_175_1 : decode c_175 1 = .ok (.iload_n 2, 1) := by decide +kernel
theorem d_175_2 : decode c_175 2 = .ok (.iconst (1), 1) := by decide +kernel
theorem d_175_3 : decode c_175 3 = .ok (.iadd, 1) := by decide +kernel
theorem d_175_4 : decode c_175 4 = .ok (.i2l, 1) := by decide +kernel
theorem d_175_5 : decode c_175 5 = .ok (.invokevirtual 121, 3) := by decide +kernel
theorem d_175_8 : decode c_175 8 = .ok (.aload_n 0, 1) := by decide +kernel
theorem d_175_9 : decode c_175 9 = .ok (.aload_n 0, 1) := by decide +kernel
theorem d_175_10 : decode c_175 10 = .ok (.aload_n 1, 1) := by decide +kernel
theorem d_175_11 : decode c_175 11 = .ok (.iload_n 2, 1) := by decide +kernel
theorem d_175_12 : decode c_175 12 = .ok (.invokevirtual 111, 3) := by decide +kernel
theorem d_175_15 : decode c_175 15 = .ok (.iload_n 2, 1) := by decide +kernel
theorem d_175_16 : decode c_175 16 = .ok (.aload_n 0, 1) := by decide +kernel
theorem d_175_17 : decode c_175 17 = .ok (.getfield 15, 3) := by decide +kernel
theorem d_175_20 : decode c_175 20 = .ok (.imul, 1) := by decide +kernel
theorem d_175_21 : decode c_175 21 = .ok (.isub, 1) := by decide +kernel
theorem d_175_22 : decode c_175 22 = .ok (.i2l, 1) := by decide +kernel
theorem d_175_23 : decode c_175 23 = .ok (.invokevirtual 121, 3) := by decide +kernel
theorem d_175_26 : decode c_175 26 = .ok (.aload_n 0, 1) := by decide +kernel
theorem d_175_27 : decode c_175 27 = .ok (.lconst 1, 1) := by decide +kernel
theorem d_175_28 : decode c_175 28 = .ok (.invokevirtual 121, 3) := by decide +kernel
theorem d_175_31 : decode c_175 31 = .ok (.return_, 1) := by decide +kernel
set_option maxRecDepth 4000 in
theorem b_175_0 {mc ms : Nat} {X : Option (Nat × (Nat → Int32))} {T : aj_Tt} {Q : aj_Q} {J : aj_J} (hJ : aj_Cl 10 c_175 (none) false mc ms X T Q J) {o0 : Nat} {o1 : Nat} {x2 : Int32} {Z : aj_Z} {I : aj_I} {G : aj_G} {C : Nat × Nat} (k0 : Z.2.1 o0 = some (.inl 10)) (h0 : T 0 0 169 [.ref o0, .long (Int32.toInt64 (x2 + 1))] Z I G (fun r Z1 I1 G1 => J 8 [some (.ref o0), some (.ref o1), some (.int x2)] (r.toList ++ []) Z1 I1 G1 C)) : J 0 [some (.ref o0), some (.ref o1), some (.int x2)] [] Z I G C := by
  refine s_aload_n hJ d_175_0 rfl ?_
  refine s_iload_n hJ d_175_1 rfl ?_
  refine s_iconst_1 hJ d_175_2 ?_
  refine s_iadd hJ d_175_3 ?_
  refine s_i2l hJ d_175_4 ?_
  exact s_V1 hJ lm_10_121 d_175_5 (Nat.le_of_ble_eq_true rfl) k0 (h0)
set_option maxRecDepth 4000 in
theorem b_175_8 {mc ms : Nat} {X : Option (Nat × (Nat → Int32))} {T : aj_Tt} {Q : aj_Q} {J : aj_J} (hJ : aj_Cl 10 c_175 (none) false mc ms X T Q J) {o0 : Nat} {o1 : Nat} {x2 : Int32} {Z : aj_Z} {I : aj_I} {G : aj_G} {C : Nat × Nat} (k0 : Z.2.1 o0 = some (.inl 10)) (h0 : T 0 0 157 [.ref o0, .ref o1, .int x2] Z I G (fun r Z1 I1 G1 => J 15 [some (.ref o0), some (.ref o1), some (.int x2)] (r.toList ++ [.ref o0]) Z1 I1 G1 C)) : J 8 [some (.ref o0), some (.ref o1), some (.int x2)] [] Z I G C := by
  refine s_aload_n hJ d_175_8 rfl ?_
  refine s_aload_n hJ d_175_9 rfl ?_
  refine s_aload_n hJ d_175_10 rfl ?_
  refine s_iload_n hJ d_175_11 rfl ?_
  exact s_V2 hJ lm_10_111 d_175_12 (Nat.le_of_ble_eq_true rfl) k0 (h0)
set_option maxRecDepth 4000 in
theorem b_175_15 {mc ms : Nat} {X : Option (Nat × (Nat → Int32))} {T : aj_Tt} {Q : aj_Q} {J : aj_J} (hJ : aj_Cl 10 c_175 (none) false mc ms X T Q J) {o0 : Nat} {w1 : Option Value} {x2 : Int32} {s0 : Int32} {s1 : Nat} {Z : aj_Z} {I : aj_I} {G : aj_G} {C : Nat × Nat} (k0 : Z.2.1 o0 = some (.inl 10)) (k1 : Z.2.1 s1 = some (.inl 10)) (h0 : T 0 0 169 [.ref s1, .long (Int32.toInt64 (s0 - (x2 * (I o0 3))))] Z I G (fun r Z1 I1 G1 => J 26 [some (.ref o0), w1, some (.int x2)] (r.toList ++ []) Z1 I1 G1 C)) : J 15 [some (.ref o0), w1, some (.int x2)] [.int s0, .ref s1] Z I G C := by
  refine s_iload_n hJ d_175_15 rfl ?_
  refine s_aload_n hJ d_175_16 rfl ?_
  refine s_geti hJ lf_10_15 rfl d_175_17 k0 ?_
  refine s_imul hJ d_175_20 ?_
  refine s_isub hJ d_175_21 ?_
  refine s_i2l hJ d_175_22 ?_
  exact s_V1 hJ lm_10_121 d_175_23 (Nat.le_of_ble_eq_true rfl) k1 (h0)
set_option maxRecDepth 4000 in
theorem b_175_26 {mc ms : Nat} {X : Option (Nat × (Nat → Int32))} {T : aj_Tt} {Q : aj_Q} {J : aj_J} (hJ : aj_Cl 10 c_175 (none) false mc ms X T Q J) {o0 : Nat} {w1 : Option Value} {w2 : Option Value} {Z : aj_Z} {I : aj_I} {G : aj_G} {C : Nat × Nat} (k0 : Z.2.1 o0 = some (.inl 10)) (h0 : T 0 0 169 [.ref o0, .long 1] Z I G (fun r Z1 I1 G1 => J 31 [some (.ref o0), w1, w2] (r.toList ++ []) Z1 I1 G1 C)) : J 26 [some (.ref o0), w1, w2] [] Z I G C := by
  refine s_aload_n hJ d_175_26 rfl ?_
  refine s_lconst_1 hJ d_175_27 ?_
  exact s_V1 hJ lm_10_121 d_175_28 (Nat.le_of_ble_eq_true rfl) k0 (h0)
set_option maxRecDepth 4000 in
theorem b_175_31 {mc ms : Nat} {X : Option (Nat × (Nat → Int32))} {T : aj_Tt} {Q : aj_Q} {J : aj_J} (hJ : aj_Cl 10 c_175 (none) false mc ms X T Q J) {w0 : Option Value} {w1 : Option Value} {w2 : Option Value} {Z : aj_Z} {I : aj_I} {G : aj_G} {C : Nat × Nat} (h0 : Q none Z I G) : J 31 [w0, w1, w2] [] Z I G C := by
  exact s_vret hJ d_175_31 rfl (h0)
-- ReelOfBoxes$Writer.writeStsz(LReelOfBoxes$Track;)V : method 176
theorem d_176_0 : decode c_176 0 = .ok (.aload_n 1, 1) := by decide +kernel
theorem d_176_1 : decode c_176 1 = .ok (.invokevirtual 64, 3) := by decide +kernel
theorem d_176_4 : decode c_176 4 = .ok (.istore_n 2, 1) := by decide +kernel
theorem d_176_5 : decode c_176 5 = .ok (.aload_n 0, 1) := by decide +kernel
theorem d_176_6 : decode c_176 6 = .ok (.iload_n 2, 1) := by decide +kernel
theorem d_176_7 : decode c_176 7 = .ok (.invokestatic 89, 3) := by decide +kernel
theorem d_176_10 : decode c_176 10 = .ok (.ldc 158, 2) := by decide +kernel
theorem d_176_12 : decode c_176 12 = .ok (.invokevirtual 125, 3) := by decide +kernel
theorem d_176_15 : decode c_176 15 = .ok (.aload_n 0, 1) := by decide +kernel
theorem d_176_16 : decode c_176 16 = .ok (.lconst 0, 1) := by decide +kernel
theorem d_176_17 : decode c_176 17 = .ok (.invokevirtual 121, 3) := by decide +kernel
theorem d_176_20 : decode c_176 20 = .ok (.aload_n 0, 1) := by decide +kernel
theorem d_176_21 : decode c_176 21 = .ok (.lconst 0, 1) := by decide +kernel
theorem d_176_22 : decode c_176 22 = .ok (.invokevirtual 121, 3) := by decide +kernel
theorem d_176_25 : decode c_176 25 = .ok (.aload_n 0, 1) := by decide +kernel
theorem d_176_26 : decode c_176 26 = .ok (.iload_n 2, 1) := by decide +kernel
theorem d_176_27 : decode c_176 27 = .ok (.i2l, 1) := by decide +kernel
theorem d_176_28 : decode c_176 28 = .ok (.invokevirtual 121, 3) := by decide +kernel
theorem d_176_31 : decode c_176 31 = .ok (.iconst (0), 1) := by decide +kernel
theorem d_176_32 : decode c_176 32 = .ok (.istore_n 3, 1) := by decide +kernel
theorem d_176_33 : decode c_176 33 = .ok (.iload_n 3, 1) := by decide +kernel
theorem d_176_34 : decode c_176 34 = .ok (.iload_n 2, 1) := by decide +kernel
theorem d_176_35 : decode c_176 35 = .ok (.if_icmp .ge (19), 3) := by decide +kernel
theorem d_176_38 : decode c_176 38 = .ok (.aload_n 0, 1) := by decide +kernel
theorem d_176_39 : decode c_176 39 = .ok (.aload_n 1, 1) := by decide +kernel
theorem d_176_40 : decode c_176 40 = .ok (.iload_n 3, 1) := by decide +kernel
theorem d_176_41 : decode c_176 41 = .ok (.invokevirtual 114, 3) := by decide +kernel
theorem d_176_44 : decode c_176 44 = .ok (.i2l, 1) := by decide +kernel
theorem d_176_45 : decode c_176 45 = .ok (.invokevirtual 121, 3) := by decide +kernel
theorem d_176_48 : decode c_176 48 = .ok (.iinc 3 (1), 3) := by decide +kernel
theorem d_176_51 : decode c_176 51 = .ok (.goto (-18), 3) := by decide +kernel
theorem d_176_54 : decode c_176 54 = .ok (.return_, 1) := by decide +kernel
set_option maxRecDepth 4000 in
theorem b_176_0 {mc ms : Nat} {X : Option (Nat × (Nat → Int32))} {T : aj_Tt} {Q : aj_Q} {J : aj_J} (hJ : aj_Cl 10 c_176 (none) false mc ms X T Q J) {o0 : Nat} {o1 : Nat} {Z : aj_Z} {I : aj_I} {G : aj_G} {C : Nat × Nat} (k0 : Z.2.1 o1 = some (.inl 8)) (h0 : T 0 0 130 [.ref o1] Z I G (fun r Z1 I1 G1 => J 4 [some (.ref o0), some (.ref o1), none, none] (r.toList ++ []) Z1 I1 G1 C)) : J 0 [some (.ref o0), some (.ref o1), none, none] [] Z I G C := by
  refine s_aload_n hJ d_176_0 rfl ?_
  exact s_V0 hJ lm_10_64 d_176_1 (Nat.le_of_ble_eq_true rfl) k0 (h0)
set_option maxRecDepth 4000 in
theorem b_176_4 {mc ms : Nat} {X : Option (Nat × (Nat → Int32))} {T : aj_Tt} {Q : aj_Q} {J : aj_J} (hJ : aj_Cl 10 c_176 (none) false mc ms X T Q J) {o0 : Nat} {o1 : Nat} {w2 : Option Value} {w3 : Option Value} {s0 : Int32} {Z : aj_Z} {I : aj_I} {G : aj_G} {C : Nat × Nat} (h0 : T 0 0 164 [.int s0] Z I G (fun r Z1 I1 G1 => J 10 [some (.ref o0), some (.ref o1), some (.int s0), w3] (r.toList ++ [.ref o0]) Z1 I1 G1 C)) : J 4 [some (.ref o0), some (.ref o1), w2, w3] [.int s0] Z I G C := by
  refine s_istore_n hJ d_176_4 (Nat.le_of_ble_eq_true rfl) ?_
  refine s_aload_n hJ d_176_5 rfl ?_
  refine s_iload_n hJ d_176_6 rfl ?_
  exact s_S1 hJ lm_10_89 d_176_7 (Nat.le_of_ble_eq_true rfl) (h0)
set_option maxRecDepth 4000 in
theorem b_176_10 {mc ms : Nat} {X : Option (Nat × (Nat → Int32))} {T : aj_Tt} {Q : aj_Q} {J : aj_J} (hJ : aj_Cl 10 c_176 (none) false mc ms X T Q J) {o0 : Nat} {o1 : Nat} {x2 : Int32} {w3 : Option Value} {s0 : Int32} {s1 : Nat} {Z : aj_Z} {I : aj_I} {G : aj_G} {C : Nat × Nat} (k0 : Z.2.1 s1 = some (.inl 10)) (h0 : T 0 0 170 [.ref s1, .int s0, .int 1937011578] Z I G (fun r Z1 I1 G1 => J 15 [some (.ref o0), some (.ref o1), some (.int x2), w3] (r.toList ++ []) Z1 I1 G1 C)) : J 10 [some (.ref o0), some (.ref o1), some (.int x2), w3] [.int s0, .ref s1] Z I G C := by
  refine s_ldc hJ lc_10_158 d_176_10 ?_
  exact s_V2 hJ lm_10_125 d_176_12 (Nat.le_of_ble_eq_true rfl) k0 (h0)
set_option maxRecDepth 4000 in
theorem b_176_15 {mc ms : Nat} {X : Option (Nat × (Nat → Int32))} {T : aj_Tt} {Q : aj_Q} {J : aj_J} (hJ : aj_Cl 10 c_176 (none) false mc ms X T Q J) {o0 : Nat} {o1 : Nat} {x2 : Int32} {w3 : Option Value} {Z : aj_Z} {I : aj_I} {G : aj_G} {C : Nat × Nat} (k0 : Z.2.1 o0 = some (.inl 10)) (h0 : T 0 0 169 [.ref o0, .long 0] Z I G (fun r Z1 I1 G1 => J 20 [some (.ref o0), some (.ref o1), some (.int x2), w3] (r.toList ++ []) Z1 I1 G1 C)) : J 15 [some (.ref o0), some (.ref o1), some (.int x2), w3] [] Z I G C := by
  refine s_aload_n hJ d_176_15 rfl ?_
  refine s_lconst_0 hJ d_176_16 ?_
  exact s_V1 hJ lm_10_121 d_176_17 (Nat.le_of_ble_eq_true rfl) k0 (h0)
set_option maxRecDepth 4000 in
theorem b_176_20 {mc ms : Nat} {X : Option (Nat × (Nat → Int32))} {T : aj_Tt} {Q : aj_Q} {J : aj_J} (hJ : aj_Cl 10 c_176 (none) false mc ms X T Q J) {o0 : Nat} {o1 : Nat} {x2 : Int32} {w3 : Option Value} {Z : aj_Z} {I : aj_I} {G : aj_G} {C : Nat × Nat} (k0 : Z.2.1 o0 = some (.inl 10)) (h0 : T 0 0 169 [.ref o0, .long 0] Z I G (fun r Z1 I1 G1 => J 25 [some (.ref o0), some (.ref o1), some (.int x2), w3] (r.toList ++ []) Z1 I1 G1 C)) : J 20 [some (.ref o0), some (.ref o1), some (.int x2), w3] [] Z I G C := by
  refine s_aload_n hJ d_176_20 rfl ?_
  refine s_lconst_0 hJ d_176_21 ?_
  exact s_V1 hJ lm_10_121 d_176_22 (Nat.le_of_ble_eq_true rfl) k0 (h0)
set_option maxRecDepth 4000 in
theorem b_176_25 {mc ms : Nat} {X : Option (Nat × (Nat → Int32))} {T : aj_Tt} {Q : aj_Q} {J : aj_J} (hJ : aj_Cl 10 c_176 (none) false mc ms X T Q J) {o0 : Nat} {o1 : Nat} {x2 : Int32} {w3 : Option Value} {Z : aj_Z} {I : aj_I} {G : aj_G} {C : Nat × Nat} (k0 : Z.2.1 o0 = some (.inl 10)) (h0 : T 0 0 169 [.ref o0, .long (Int32.toInt64 x2)] Z I G (fun r Z1 I1 G1 => J 31 [some (.ref o0), some (.ref o1), some (.int x2), w3] (r.toList ++ []) Z1 I1 G1 C)) : J 25 [some (.ref o0), some (.ref o1), some (.int x2), w3] [] Z I G C := by
  refine s_aload_n hJ d_176_25 rfl ?_
  refine s_iload_n hJ d_176_26 rfl ?_
  refine s_i2l hJ d_176_27 ?_
  exact s_V1 hJ lm_10_121 d_176_28 (Nat.le_of_ble_eq_true rfl) k0 (h0)
set_option maxRecDepth 4000 in
theorem b_176_31 {mc ms : Nat} {X : Option (Nat × (Nat → Int32))} {T : aj_Tt} {Q : aj_Q} {J : aj_J} (hJ : aj_Cl 10 c_176 (none) false mc ms X T Q J) {o0 : Nat} {o1 : Nat} {x2 : Int32} {w3 : Option Value} {Z : aj_Z} {I : aj_I} {G : aj_G} {C : Nat × Nat} (h0 : J 33 [some (.ref o0), some (.ref o1), some (.int x2), some (.int 0)] [] Z I G C) : J 31 [some (.ref o0), some (.ref o1), some (.int x2), w3] [] Z I G C := by
  refine s_iconst_0 hJ d_176_31 ?_
  refine s_istore_n hJ d_176_32 (Nat.le_of_ble_eq_true rfl) ?_
  exact h0
set_option maxRecDepth 4000 in
theorem b_176_33 {mc ms : Nat} {X : Option (Nat × (Nat → Int32))} {T : aj_Tt} {Q : aj_Q} {J : aj_J} (hJ : aj_Cl 10 c_176 (none) false mc ms X T Q J) {o0 : Nat} {o1 : Nat} {x2 : Int32} {x3 : Int32} {Z : aj_Z} {I : aj_I} {G : aj_G} {C : Nat × Nat} (h0 : x2 ≤ x3 → Q none Z I G) (k0 : Z.2.1 o1 = some (.inl 8)) (h1 : ¬ x2 ≤ x3 → T 0 0 133 [.ref o1, .int x3] Z I G (fun r Z1 I1 G1 => J 44 [some (.ref o0), some (.ref o1), some (.int x2), some (.int x3)] (r.toList ++ [.ref o0]) Z1 I1 G1 C)) : J 33 [some (.ref o0), some (.ref o1), some (.int x2), some (.int x3)] [] Z I G C := by
  refine s_iload_n hJ d_176_33 rfl ?_
  refine s_iload_n hJ d_176_34 rfl ?_
  refine s_icmp_ge (tgt := 54) hJ d_176_35 rfl (fun c0 => ?_) (fun c0 => ?_)
  · skip
    exact s_vret hJ d_176_54 rfl (h0 c0)
  · skip
    refine s_aload_n hJ d_176_38 rfl ?_
    refine s_aload_n hJ d_176_39 rfl ?_
    refine s_iload_n hJ d_176_40 rfl ?_
    exact s_V1 hJ lm_10_114 d_176_41 (Nat.le_of_ble_eq_true rfl) k0 (h1 c0)
set_option maxRecDepth 4000 in
theorem b_176_44 {mc ms : Nat} {X : Option (Nat × (Nat → Int32))} {T : aj_Tt} {Q : aj_Q} {J : aj_J} (hJ : aj_Cl 10 c_176 (none) false mc ms X T Q J) {o0 : Nat} {o1 : Nat} {x2 : Int32} {x3 : Int32} {s0 : Int32} {s1 : Nat} {Z : aj_Z} {I : aj_I} {G : aj_G} {C : Nat × Nat} (k0 : Z.2.1 s1 = some (.inl 10)) (h0 : T 0 0 169 [.ref s1, .long (Int32.toInt64 s0)] Z I G (fun r Z1 I1 G1 => J 48 [some (.ref o0), some (.ref o1), some (.int x2), some (.int x3)] (r.toList ++ []) Z1 I1 G1 C)) : J 44 [some (.ref o0), some (.ref o1), some (.int x2), some (.int x3)] [.int s0, .ref s1] Z I G C := by
  refine s_i2l hJ d_176_44 ?_
  exact s_V1 hJ lm_10_121 d_176_45 (Nat.le_of_ble_eq_true rfl) k0 (h0)
set_option maxRecDepth 4000 in
theorem b_176_48 {mc ms : Nat} {X : Option (Nat × (Nat → Int32))} {T : aj_Tt} {Q : aj_Q} {J : aj_J} (hJ : aj_Cl 10 c_176 (none) false mc ms X T Q J) {o0 : Nat} {o1 : Nat} {x2 : Int32} {x3 : Int32} {Z : aj_Z} {I : aj_I} {G : aj_G} {C : Nat × Nat} (h0 : J 33 [some (.ref o0), some (.ref o1), some (.int x2), some (.int (x3 + 1))] [] Z I G C) : J 48 [some (.ref o0), some (.ref o1), some (.int x2), some (.int x3)] [] Z I G C := by
  refine s_iinc (v := 1) hJ d_176_48 rfl (by decide) ?_
  refine s_goto (tgt := 33) hJ d_176_51 rfl ?_
  exact h0
-- ReelOfBoxes$Writer.writePlaces(LReelOfBoxes$Track;I)V : method 177
theorem d_177_0 : decode c_177 0 = .ok (.aload_n 0, 1) := by decide +kernel
theorem d_177_1 : decode c_177 1 = .ok (.aload_n 1, 1) := by decide +kernel
theorem d_177_2 : decode c_177 2 = .ok (.invokevirtual 92, 3) := by decide +kernel
theorem d_177_5 : decode c_177 5 = .ok (.bipush (16), 2) := by decide +kernel
theorem d_177_7 : decode c_177 7 = .ok (.invokestatic 69, 3) := by decide +kernel
theorem d_177_10 : decode c_177 10 = .ok (.istore_n 3, 1) := by decide +kernel
theorem d_177_11 : decode c_177 11 = .ok (.aload_n 0, 1) := by decide +kernel
theorem d_177_12 : decode c_177 12 = .ok (.aload_n 0, 1) := by decide +kernel
theorem d_177_13 : decode c_177 13 = .ok (.getfield 19, 3) := by decide +kernel
theorem d_177_16 : decode c_177 16 = .ok (.ifCond .eq (8), 3) := by decide +kernel
theorem d_177_19 : decode c_177 19 = .ok (.ldc 159, 2) := by decide +kernel
theorem d_177_21 : decode c_177 21 = .ok (.goto (5), 3) := by decide +kernel
theorem d_177_24 : decode c_177 24 = .ok (.ldc 160, 2) := by decide +kernel
theorem d_177_26 : decode c_177 26 = .ok (.iload_n 3, 1) := by decide +kernel
theorem d_177_27 : decode c_177 27 = .ok (.aload_n 0, 1) := by decide +kernel
theorem d_177_28 : decode c_177 28 = .ok (.invokevirtual 95, 3) := by decide +kernel
theorem d_177_31 : decode c_177 31 = .ok (.invokevirtual 147, 3) := by decide +kernel
theorem d_177_34 : decode c_177 34 = .ok (.iconst (0), 1) := by decide +kernel
theorem d_177_35 : decode c_177 35 = .ok (.istore 4, 2) := by decide +kernel
theorem d_177_37 : decode c_177 37 = .ok (.iload 4, 2) := by decide +kernel
theorem d_177_39 : decode c_177 39 = .ok (.iload_n 3, 1) := by decide +kernel
theorem d_177_40 : decode c_177 40 = .ok (.if_icmp .ge (34), 3) := by decide +kernel
theorem d_177_43 : decode c_177 43 = .ok (.aload_n 0, 1) := by decide +kernel
theorem d_177_44 : decode c_177 44 = .ok (.getfield 30, 3) := by decide +kernel
theorem d_177_47 : decode c_177 47 = .ok (.aload_n 0, 1) := by decide +kernel
theorem d_177_48 : decode c_177 48 = .ok (.getfield 9, 3) := by decide +kernel
theorem d_177_51 : decode c_177 51 = .ok (.iload_n 2, 1) := by decide +kernel
theorem d_177_52 : decode c_177 52 = .ok (.bipush (16), 2) := by decide +kernel
theorem d_177_54 : decode c_177 54 = .ok (.imul, 1) := by decide +kernel
theorem d_177_55 : decode c_177 55 = .ok (.iload 4, 2) := by decide +kernel
theorem d_177_57 : decode c_177 57 = .ok (.iadd, 1) := by decide +kernel
theorem d_177_58 : decode c_177 58 = .ok (.iaload, 1) := by decide +kernel
theorem d_177_59 : decode c_177 59 = .ok (.i2l, 1) := by decide +kernel
theorem d_177_60 : decode c_177 60 = .ok (.aload_n 0, 1) := by decide +kernel
theorem d_177_61 : decode c_177 61 = .ok (.invokevirtual 95, 3) := by decide +kernel
theorem d_177_64 : decode c_177 64 = .ok (.invokevirtual 117, 3) := by decide +kernel
theorem d_177_67 : decode c_177 67 = .ok (.pop, 1) := by decide +kernel
theorem d_177_68 : decode c_177 68 = .ok (.iinc 4 (1), 3) := by decide +kernel
theorem d_177_71 : decode c_177 71 = .ok (.goto (-34), 3) := by decide +kernel
theorem d_177_74 : decode c_177 74 = .ok (.return_, 1) := by decide +kernel
set_option maxRecDepth 4000 in
theorem b_177_0 {mc ms : Nat} {X : Option (Nat × (Nat → Int32))} {T : aj_Tt} {Q : aj_Q} {J : aj_J} (hJ : aj_Cl 10 c_177 (none) false mc ms X T Q J) {o0 : Nat} {o1 : Nat} {x2 : Int32} {Z : aj_Z} {I : aj_I} {G : aj_G} {C : Nat × Nat} (k0 : Z.2.1 o0 = some (.inl 10)) (h0 : T 0 0 156 [.ref o0, .ref o1] Z I G (fun r Z1 I1 G1 => J 5 [some (.ref o0), some (.ref o1), some (.int x2), none, none] (r.toList ++ []) Z1 I1 G1 C)) : J 0 [some (.ref o0), some (.ref o1), some (.int x2), none, none] [] Z I G C := by
  refine s_aload_n hJ d_177_0 rfl ?_
  refine s_aload_n hJ d_177_1 rfl ?_
  exact s_V1 hJ lm_10_92 d_177_2 (Nat.le_of_ble_eq_true rfl) k0 (h0)
set_option maxRecDepth 4000 in
theorem b_177_5 {mc ms : Nat} {X : Option (Nat × (Nat → Int32))} {T : aj_Tt} {Q : aj_Q} {J : aj_J} (hJ : aj_Cl 10 c_177 (none) false mc ms X T Q J) {o0 : Nat} {w1 : Option Value} {x2 : Int32} {w3 : Option Value} {w4 : Option Value} {s0 : Int32} {Z : aj_Z} {I : aj_I} {G : aj_G} {C : Nat × Nat} (h0 : J 10 [some (.ref o0), w1, some (.int x2), w3, w4] [.int (if 16 < s0 then 16 else s0)] Z I G C) : J 5 [some (.ref o0), w1, some (.int x2), w3, w4] [.int s0] Z I G C := by
  refine s_bipush (v := 16) hJ d_177_5 (by decide) ?_
  refine s_mmin hJ lx_10_69 d_177_7 (Nat.le_of_ble_eq_true rfl) ?_
  exact h0
set_option maxRecDepth 4000 in
theorem b_177_10 {mc ms : Nat} {X : Option (Nat × (Nat → Int32))} {T : aj_Tt} {Q : aj_Q} {J : aj_J} (hJ : aj_Cl 10 c_177 (none) false mc ms X T Q J) {o0 : Nat} {w1 : Option Value} {x2 : Int32} {w3 : Option Value} {w4 : Option Value} {s0 : Int32} {Z : aj_Z} {I : aj_I} {G : aj_G} {C : Nat × Nat} (k0 : Z.2.1 o0 = some (.inl 10)) (h0 : (I o0 4) = 0 → T 0 0 162 [.ref o0] Z I G (fun r Z1 I1 G1 => J 31 [some (.ref o0), w1, some (.int x2), some (.int s0), w4] (r.toList ++ [.int s0, .int 1937007471, .ref o0]) Z1 I1 G1 C)) (h1 : ¬ (I o0 4) = 0 → T 0 0 162 [.ref o0] Z I G (fun r Z1 I1 G1 => J 31 [some (.ref o0), w1, some (.int x2), some (.int s0), w4] (r.toList ++ [.int s0, .int 1668232756, .ref o0]) Z1 I1 G1 C)) : J 10 [some (.ref o0), w1, some (.int x2), w3, w4] [.int s0] Z I G C := by
  refine s_istore_n hJ d_177_10 (Nat.le_of_ble_eq_true rfl) ?_
  refine s_aload_n hJ d_177_11 rfl ?_
  refine s_aload_n hJ d_177_12 rfl ?_
  refine s_geti hJ lf_10_19 rfl d_177_13 k0 ?_
  refine s_if_eq (tgt := 24) hJ d_177_16 rfl (fun c0 => ?_) (fun c0 => ?_)
  · skip
    refine s_ldc hJ lc_10_160 d_177_24 ?_
    refine s_iload_n hJ d_177_26 rfl ?_
    refine s_aload_n hJ d_177_27 rfl ?_
    exact s_V0 hJ lm_10_95 d_177_28 (Nat.le_of_ble_eq_true rfl) k0 (h0 c0)
  · skip
    refine s_ldc hJ lc_10_159 d_177_19 ?_
    refine s_goto (tgt := 26) hJ d_177_21 rfl ?_
    refine s_iload_n hJ d_177_26 rfl ?_
    refine s_aload_n hJ d_177_27 rfl ?_
    exact s_V0 hJ lm_10_95 d_177_28 (Nat.le_of_ble_eq_true rfl) k0 (h1 c0)
set_option maxRecDepth 4000 in
theorem b_177_31 {mc ms : Nat} {X : Option (Nat × (Nat → Int32))} {T : aj_Tt} {Q : aj_Q} {J : aj_J} (hJ : aj_Cl 10 c_177 (none) false mc ms X T Q J) {o0 : Nat} {w1 : Option Value} {x2 : Int32} {x3 : Int32} {w4 : Option Value} {s0 : Int32} {s1 : Int32} {s2 : Int32} {s3 : Nat} {Z : aj_Z} {I : aj_I} {G : aj_G} {C : Nat × Nat} (k0 : Z.2.1 s3 = some (.inl 10)) (h0 : T 0 0 171 [.ref s3, .int s2, .int s1, .int s0] Z I G (fun r Z1 I1 G1 => J 34 [some (.ref o0), w1, some (.int x2), some (.int x3), w4] (r.toList ++ []) Z1 I1 G1 C)) : J 31 [some (.ref o0), w1, some (.int x2), some (.int x3), w4] [.int s0, .int s1, .int s2, .ref s3] Z I G C := by
  exact s_V3 hJ lm_10_147 d_177_31 (Nat.le_of_ble_eq_true rfl) k0 (h0)
set_option maxRecDepth 4000 in
theorem b_177_34 {mc ms : Nat} {X : Option (Nat × (Nat → Int32))} {T : aj_Tt} {Q : aj_Q} {J : aj_J} (hJ : aj_Cl 10 c_177 (none) false mc ms X T Q J) {o0 : Nat} {w1 : Option Value} {x2 : Int32} {x3 : Int32} {w4 : Option Value} {Z : aj_Z} {I : aj_I} {G : aj_G} {C : Nat × Nat} (h0 : J 37 [some (.ref o0), w1, some (.int x2), some (.int x3), some (.int 0)] [] Z I G C) : J 34 [some (.ref o0), w1, some (.int x2), some (.int x3), w4] [] Z I G C := by
  refine s_iconst_0 hJ d_177_34 ?_
  refine s_istore hJ d_177_35 (Nat.le_of_ble_eq_true rfl) ?_
  exact h0
set_option maxRecDepth 4000 in
theorem b_177_37 {mc ms : Nat} {X : Option (Nat × (Nat → Int32))} {T : aj_Tt} {Q : aj_Q} {J : aj_J} (hJ : aj_Cl 10 c_177 (none) false mc ms X T Q J) {o0 : Nat} {w1 : Option Value} {x2 : Int32} {x3 : Int32} {x4 : Int32} {q0 : Nat} {q1 : Nat} {nk1 : Nat} {Z : aj_Z} {I : aj_I} {G : aj_G} {C : Nat × Nat} (h0 : x3 ≤ x4 → Q none Z I G) (k0 : Z.2.1 o0 = some (.inl 10)) (r0 : Z.2.2 o0 1 = .ref q0) (r1 : Z.2.2 o0 2 = .ref q1) (k1 : Z.2.1 q1 = some (.inr (0, nk1))) (h1 : ¬ x3 ≤ x4 → vp_in ((x2 * 16) + x4) nk1) (h2 : ¬ x3 ≤ x4 → T 0 0 162 [.ref o0] Z I G (fun r Z1 I1 G1 => J 64 [some (.ref o0), w1, some (.int x2), some (.int x3), some (.int x4)] (r.toList ++ [.long (Int32.toInt64 (I q1 (Int32.toNatClampNeg ((x2 * 16) + x4)))), .ref q0]) Z1 I1 G1 C)) : J 37 [some (.ref o0), w1, some (.int x2), some (.int x3), some (.int x4)] [] Z I G C := by
  refine s_iload hJ d_177_37 rfl ?_
  refine s_iload_n hJ d_177_39 rfl ?_
  refine s_icmp_ge (tgt := 74) hJ d_177_40 rfl (fun c0 => ?_) (fun c0 => ?_)
  · skip
    exact s_vret hJ d_177_74 rfl (h0 c0)
  · skip
    refine s_aload_n hJ d_177_43 rfl ?_
    refine s_getr hJ lf_10_30 rfl d_177_44 k0 r0 ?_
    refine s_aload_n hJ d_177_47 rfl ?_
    refine s_getr hJ lf_10_9 rfl d_177_48 k0 r1 ?_
    refine s_iload_n hJ d_177_51 rfl ?_
    refine s_bipush (v := 16) hJ d_177_52 (by decide) ?_
    refine s_imul hJ d_177_54 ?_
    refine s_iload hJ d_177_55 rfl ?_
    refine s_iadd hJ d_177_57 ?_
    refine s_iald hJ d_177_58 k1 (h1 c0) ?_
    refine s_i2l hJ d_177_59 ?_
    refine s_aload_n hJ d_177_60 rfl ?_
    exact s_V0 hJ lm_10_95 d_177_61 (Nat.le_of_ble_eq_true rfl) k0 (h2 c0)
set_option maxRecDepth 4000 in
theorem b_177_64 {mc ms : Nat} {X : Option (Nat × (Nat → Int32))} {T : aj_Tt} {Q : aj_Q} {J : aj_J} (hJ : aj_Cl 10 c_177 (none) false mc ms X T Q J) {o0 : Nat} {w1 : Option Value} {x2 : Int32} {x3 : Int32} {x4 : Int32} {s0 : Int32} {s1 : Int64} {s2 : Nat} {Z : aj_Z} {I : aj_I} {G : aj_G} {C : Nat × Nat} (k0 : Z.2.1 s2 = some (.inl 2)) (h0 : T 0 0 85 [.ref s2, .long s1, .int s0] Z I G (fun r Z1 I1 G1 => J 67 [some (.ref o0), w1, some (.int x2), some (.int x3), some (.int x4)] (r.toList ++ []) Z1 I1 G1 C)) : J 64 [some (.ref o0), w1, some (.int x2), some (.int x3), some (.int x4)] [.int s0, .long s1, .ref s2] Z I G C := by
  exact s_V2 hJ lm_10_117 d_177_64 (Nat.le_of_ble_eq_true rfl) k0 (h0)
set_option maxRecDepth 4000 in
theorem b_177_67 {mc ms : Nat} {X : Option (Nat × (Nat → Int32))} {T : aj_Tt} {Q : aj_Q} {J : aj_J} (hJ : aj_Cl 10 c_177 (none) false mc ms X T Q J) {o0 : Nat} {w1 : Option Value} {x2 : Int32} {x3 : Int32} {x4 : Int32} {s0 : Int32} {Z : aj_Z} {I : aj_I} {G : aj_G} {C : Nat × Nat} (h0 : J 37 [some (.ref o0), w1, some (.int x2), some (.int x3), some (.int (x4 + 1))] [] Z I G C) : J 67 [some (.ref o0), w1, some (.int x2), some (.int x3), some (.int x4)] [.int s0] Z I G C := by
  refine s_pop hJ d_177_67 rfl ?_
  refine s_iinc (v := 1) hJ d_177_68 rfl (by decide) ?_
  refine s_goto (tgt := 37) hJ d_177_71 rfl ?_
  exact h0
-- ReelOfBoxes$Writer.writeMdat(I)V : method 178
theorem d_178_0 : decode c_178 0 = .ok (.aload_n 0, 1) := by decide +kernel
theorem d_178_1 : decode c_178 1 = .ok (.aload_n 0, 1) := by decide +kernel
theorem d_178_2 : decode c_178 2 = .ok (.getfield 23, 3) := by decide +kernel
theorem d_178_5 : decode c_178 5 = .ok (.ifCond .eq (7), 3) := by decide +kernel
theorem d_178_8 : decode c_178 8 = .ok (.iconst (1), 1) := by decide +kernel
theorem d_178_9 : decode c_178 9 = .ok (.goto (4), 3) := by decide +kernel
theorem d_178_12 : decode c_178 12 = .ok (.iload_n 1, 1) := by decide +kernel
theorem d_178_13 : decode c_178 13 = .ok (.ldc 161, 2) := by decide +kernel
theorem d_178_15 : decode c_178 15 = .ok (.invokevirtual 125, 3) := by decide +kernel
theorem d_178_18 : decode c_178 18 = .ok (.aload_n 0, 1) := by decide +kernel
theorem d_178_19 : decode c_178 19 = .ok (.getfield 23, 3) := by decide +kernel
theorem d_178_22 : decode c_178 22 = .ok (.ifCond .eq (15), 3) := by decide +kernel
theorem d_178_25 : decode c_178 25 = .ok (.aload_n 0, 1) := by decide +kernel
theorem d_178_26 : decode c_178 26 = .ok (.getfield 30, 3) := by decide +kernel
theorem d_178_29 : decode c_178 29 = .ok (.iload_n 1, 1) := by decide +kernel
theorem d_178_30 : decode c_178 30 = .ok (.i2l, 1) := by decide +kernel
theorem d_178_31 : decode c_178 31 = .ok (.bipush (8), 2) := by decide +kernel
theorem d_178_33 : decode c_178 33 = .ok (.invokevirtual 117, 3) := by decide +kernel
theorem d_178_36 : decode c_178 36 = .ok (.pop, 1) := by decide +kernel
theorem d_178_37 : decode c_178 37 = .ok (.iconst (0), 1) := by decide +kernel
theorem d_178_38 : decode c_178 38 = .ok (.istore_n 2, 1) := by decide +kernel
theorem d_178_39 : decode c_178 39 = .ok (.iload_n 2, 1) := by decide +kernel
theorem d_178_40 : decode c_178 40 = .ok (.bipush (16), 2) := by decide +kernel
theorem d_178_42 : decode c_178 42 = .ok (.if_icmp .ge (44), 3) := by decide +kernel
theorem d_178_45 : decode c_178 45 = .ok (.iconst (0), 1) := by decide +kernel
theorem d_178_46 : decode c_178 46 = .ok (.istore_n 3, 1) := by decide +kernel
theorem d_178_47 : decode c_178 47 = .ok (.iload_n 3, 1) := by decide +kernel
theorem d_178_48 : decode c_178 48 = .ok (.iconst (3), 1) := by decide +kernel
theorem d_178_49 : decode c_178 49 = .ok (.if_icmp .ge (31), 3) := by decide +kernel
theorem d_178_52 : decode c_178 52 = .ok (.aload_n 0, 1) := by decide +kernel
theorem d_178_53 : decode c_178 53 = .ok (.getfield 26, 3) := by decide +kernel
theorem d_178_56 : decode c_178 56 = .ok (.iload_n 3, 1) := by decide +kernel
theorem d_178_57 : decode c_178 57 = .ok (.invokevirtual 98, 3) := by decide +kernel
theorem d_178_60 : decode c_178 60 = .ok (.astore 4, 2) := by decide +kernel
theorem d_178_62 : decode c_178 62 = .ok (.aload 4, 2) := by decide +kernel
theorem d_178_64 : decode c_178 64 = .ok (.ifnull (10), 3) := by decide +kernel
theorem d_178_67 : decode c_178 67 = .ok (.aload_n 0, 1) := by decide +kernel
theorem d_178_68 : decode c_178 68 = .ok (.aload 4, 2) := by decide +kernel
theorem d_178_70 : decode c_178 70 = .ok (.iload_n 2, 1) := by decide +kernel
theorem d_178_71 : decode c_178 71 = .ok (.invokevirtual 162, 3) := by decide +kernel
theorem d_178_74 : decode c_178 74 = .ok (.iinc 3 (1), 3) := by decide +kernel
theorem d_178_77 : decode c_178 77 = .ok (.goto (-30), 3) := by decide +kernel
theorem d_178_80 : decode c_178 80 = .ok (.iinc 2 (1), 3) := by decide +kernel
theorem d_178_83 : decode c_178 83 = .ok (.goto (-44), 3) := by decide +kernel
theorem d_178_86 : decode c_178 86 = .ok (.return_, 1) := by decide +kernel
set_option maxRecDepth 4000 in
theorem b_178_0 {mc ms : Nat} {X : Option (Nat × (Nat → Int32))} {T : aj_Tt} {Q : aj_Q} {J : aj_J} (hJ : aj_Cl 10 c_178 (none) false mc ms X T Q J) {o0 : Nat} {x1 : Int32} {Z : aj_Z} {I : aj_I} {G : aj_G} {C : Nat × Nat} (k0 : Z.2.1 o0 = some (.inl 10)) (h0 : (I o0 5) = 0 → T 0 0 170 [.ref o0, .int x1, .int 1835295092] Z I G (fun r Z1 I1 G1 => J 18 [some (.ref o0), some (.int x1), none, none, none] (r.toList ++ []) Z1 I1 G1 C)) (h1 : ¬ (I o0 5) = 0 → T 0 0 170 [.ref o0, .int 1, .int 1835295092] Z I G (fun r Z1 I1 G1 => J 18 [some (.ref o0), some (.int x1), none, none, none] (r.toList ++ []) Z1 I1 G1 C)) : J 0 [some (.ref o0), some (.int x1), none, none, none] [] Z I G C := by
  refine s_aload_n hJ d_178_0 rfl ?_
  refine s_aload_n hJ d_178_1 rfl ?_
  refine s_geti hJ lf_10_23 rfl d_178_2 k0 ?_
  refine s_if_eq (tgt := 12) hJ d_178_5 rfl (fun c0 => ?_) (fun c0 => ?_)
  · skip
    refine s_iload_n hJ d_178_12 rfl ?_
    refine s_ldc hJ lc_10_161 d_178_13 ?_
    exact s_V2 hJ lm_10_125 d_178_15 (Nat.le_of_ble_eq_true rfl) k0 (h0 c0)
  · skip
    refine s_iconst_1 hJ d_178_8 ?_
    refine s_goto (tgt := 13) hJ d_178_9 rfl ?_
    refine s_ldc hJ lc_10_161 d_178_13 ?_
    exact s_V2 hJ lm_10_125 d_178_15 (Nat.le_of_ble_eq_true rfl) k0 (h1 c0)
set_option maxRecDepth 4000 in
theorem b_178_18 {mc ms : Nat} {X : Option (Nat × (Nat → Int32))} {T : aj_Tt} {Q : aj_Q} {J : aj_J} (hJ : aj_Cl 10 c_178 (none) false mc ms X T Q J) {o0 : Nat} {x1 : Int32} {w2 : Option Value} {w3 : Option Value} {w4 : Option Value} {q0 : Nat} {Z : aj_Z} {I : aj_I} {G : aj_G} {C : Nat × Nat} (k0 : Z.2.1 o0 = some (.inl 10)) (h0 : (I o0 5) = 0 → J 39 [some (.ref o0), some (.int x1), some (.int 0), w3, w4] [] Z I G C) (r0 : Z.2.2 o0 1 = .ref q0) (k1 : Z.2.1 q0 = some (.inl 2)) (h1 : ¬ (I o0 5) = 0 → T 0 0 85 [.ref q0, .long (Int32.toInt64 x1), .int 8] Z I G (fun r Z1 I1 G1 => J 36 [some (.ref o0), some (.int x1), w2, w3, w4] (r.toList ++ []) Z1 I1 G1 C)) : J 18 [some (.ref o0), some (.int x1), w2, w3, w4] [] Z I G C := by
  refine s_aload_n hJ d_178_18 rfl ?_
  refine s_geti hJ lf_10_23 rfl d_178_19 k0 ?_
  refine s_if_eq (tgt := 37) hJ d_178_22 rfl (fun c0 => ?_) (fun c0 => ?_)
  · skip
    refine s_iconst_0 hJ d_178_37 ?_
    refine s_istore_n hJ d_178_38 (Nat.le_of_ble_eq_true rfl) ?_
    exact h0 c0
  · skip
    refine s_aload_n hJ d_178_25 rfl ?_
    refine s_getr hJ lf_10_30 rfl d_178_26 k0 r0 ?_
    refine s_iload_n hJ d_178_29 rfl ?_
    refine s_i2l hJ d_178_30 ?_
    refine s_bipush (v := 8) hJ d_178_31 (by decide) ?_
    exact s_V2 hJ lm_10_117 d_178_33 (Nat.le_of_ble_eq_true rfl) k1 (h1 c0)
set_option maxRecDepth 4000 in
theorem b_178_36 {mc ms : Nat} {X : Option (Nat × (Nat → Int32))} {T : aj_Tt} {Q : aj_Q} {J : aj_J} (hJ : aj_Cl 10 c_178 (none) false mc ms X T Q J) {o0 : Nat} {w1 : Option Value} {w2 : Option Value} {w3 : Option Value} {w4 : Option Value} {s0 : Int32} {Z : aj_Z} {I : aj_I} {G : aj_G} {C : Nat × Nat} (h0 : J 39 [some (.ref o0), (aj_clr w1), some (.int 0), w3, w4] [] Z I G C) : J 36 [some (.ref o0), w1, w2, w3, w4] [.int s0] Z I G C := by
  refine s_pop hJ d_178_36 rfl ?_
  refine s_iconst_0 hJ d_178_37 ?_
  refine s_istore_n hJ d_178_38 (Nat.le_of_ble_eq_true rfl) ?_
  exact h0
set_option maxRecDepth 4000 in
theorem b_178_39 {mc ms : Nat} {X : Option (Nat × (Nat → Int32))} {T : aj_Tt} {Q : aj_Q} {J : aj_J} (hJ : aj_Cl 10 c_178 (none) false mc ms X T Q J) {o0 : Nat} {w1 : Option Value} {x2 : Int32} {w3 : Option Value} {w4 : Option Value} {Z : aj_Z} {I : aj_I} {G : aj_G} {C : Nat × Nat} (h0 : 16 ≤ x2 → Q none Z I G) (h1 : ¬ 16 ≤ x2 → J 47 [some (.ref o0), w1, some (.int x2), some (.int 0), w4] [] Z I G C) : J 39 [some (.ref o0), w1, some (.int x2), w3, w4] [] Z I G C := by
  refine s_iload_n hJ d_178_39 rfl ?_
  refine s_bipush (v := 16) hJ d_178_40 (by decide) ?_
  refine s_icmp_ge (tgt := 86) hJ d_178_42 rfl (fun c0 => ?_) (fun c0 => ?_)
  · skip
    exact s_vret hJ d_178_86 rfl (h0 c0)
  · skip
    refine s_iconst_0 hJ d_178_45 ?_
    refine s_istore_n hJ d_178_46 (Nat.le_of_ble_eq_true rfl) ?_
    exact h1 c0
set_option maxRecDepth 4000 in
theorem b_178_47 {mc ms : Nat} {X : Option (Nat × (Nat → Int32))} {T : aj_Tt} {Q : aj_Q} {J : aj_J} (hJ : aj_Cl 10 c_178 (none) false mc ms X T Q J) {o0 : Nat} {w1 : Option Value} {x2 : Int32} {x3 : Int32} {w4 : Option Value} {q0 : Nat} {Z : aj_Z} {I : aj_I} {G : aj_G} {C : Nat × Nat} (h0 : 3 ≤ x3 → J 39 [some (.ref o0), (aj_clr w1), some (.int (x2 + 1)), some (.int x3), w4] [] Z I G C) (k0 : Z.2.1 o0 = some (.inl 10)) (r0 : Z.2.2 o0 0 = .ref q0) (k1 : Z.2.1 q0 = some (.inl 6)) (h1 : ¬ 3 ≤ x3 → T 0 0 112 [.ref q0, .int x3] Z I G (fun r Z1 I1 G1 => J 60 [some (.ref o0), w1, some (.int x2), some (.int x3), w4] (r.toList ++ []) Z1 I1 G1 C)) : J 47 [some (.ref o0), w1, some (.int x2), some (.int x3), w4] [] Z I G C := by
  refine s_iload_n hJ d_178_47 rfl ?_
  refine s_iconst_3 hJ d_178_48 ?_
  refine s_icmp_ge (tgt := 80) hJ d_178_49 rfl (fun c0 => ?_) (fun c0 => ?_)
  · skip
    refine s_iinc (v := 1) hJ d_178_80 rfl (by decide) ?_
    refine s_goto (tgt := 39) hJ d_178_83 rfl ?_
    exact h0 c0
  · skip
    refine s_aload_n hJ d_178_52 rfl ?_
    refine s_getr hJ lf_10_26 rfl d_178_53 k0 r0 ?_
    refine s_iload_n hJ d_178_56 rfl ?_
    exact s_V1 hJ lm_10_98 d_178_57 (Nat.le_of_ble_eq_true rfl) k1 (h1 c0)
set_option maxRecDepth 4000 in
theorem b_178_60 {mc ms : Nat} {X : Option (Nat × (Nat → Int32))} {T : aj_Tt} {Q : aj_Q} {J : aj_J} (hJ : aj_Cl 10 c_178 (none) false mc ms X T Q J) {o0 : Nat} {w1 : Option Value} {x2 : Int32} {x3 : Int32} {w4 : Option Value} {s0 : Nat} {Z : aj_Z} {I : aj_I} {G : aj_G} {C : Nat × Nat} (k0 : Z.2.1 o0 = some (.inl 10)) (h0 : T 0 0 179 [.ref o0, .ref s0, .int x2] Z I G (fun r Z1 I1 G1 => J 74 [some (.ref o0), w1, some (.int x2), some (.int x3), some (.ref s0)] (r.toList ++ []) Z1 I1 G1 C)) : J 60 [some (.ref o0), w1, some (.int x2), some (.int x3), w4] [.ref s0] Z I G C := by
  refine s_astore hJ d_178_60 (Nat.le_of_ble_eq_true rfl) ?_
  refine s_aload hJ d_178_62 rfl ?_
  refine s_ifnull hJ d_178_64 ?_
  refine s_aload_n hJ d_178_67 rfl ?_
  refine s_aload hJ d_178_68 rfl ?_
  refine s_iload_n hJ d_178_70 rfl ?_
  exact s_V2 hJ lm_10_162 d_178_71 (Nat.le_of_ble_eq_true rfl) k0 (h0)
set_option maxRecDepth 4000 in
theorem b_178_60N {mc ms : Nat} {X : Option (Nat × (Nat → Int32))} {T : aj_Tt} {Q : aj_Q} {J : aj_J} (hJ : aj_Cl 10 c_178 (none) false mc ms X T Q J) {o0 : Nat} {w1 : Option Value} {x2 : Int32} {x3 : Int32} {w4 : Option Value} {Z : aj_Z} {I : aj_I} {G : aj_G} {C : Nat × Nat} (h0 : J 74 [some (.ref o0), w1, some (.int x2), some (.int x3), some (.null)] [] Z I G C) : J 60 [some (.ref o0), w1, some (.int x2), some (.int x3), w4] [.null] Z I G C := by
  refine s_astoreN hJ d_178_60 (Nat.le_of_ble_eq_true rfl) ?_
  refine s_aloadN hJ d_178_62 rfl ?_
  refine s_ifnullN (tgt := 74) hJ d_178_64 rfl ?_
  exact h0
set_option maxRecDepth 4000 in
theorem b_178_74 {mc ms : Nat} {X : Option (Nat × (Nat → Int32))} {T : aj_Tt} {Q : aj_Q} {J : aj_J} (hJ : aj_Cl 10 c_178 (none) false mc ms X T Q J) {o0 : Nat} {w1 : Option Value} {x2 : Int32} {x3 : Int32} {w4 : Option Value} {Z : aj_Z} {I : aj_I} {G : aj_G} {C : Nat × Nat} (h0 : J 47 [some (.ref o0), w1, some (.int x2), some (.int (x3 + 1)), w4] [] Z I G C) : J 74 [some (.ref o0), w1, some (.int x2), some (.int x3), w4] [] Z I G C := by
  refine s_iinc (v := 1) hJ d_178_74 rfl (by decide) ?_
  refine s_goto (tgt := 47) hJ d_178_77 rfl ?_
  exact h0
-- ReelOfBoxes$Writer.writeChunk(LReelOfBoxes$Track;I)V : method 179
theorem d_179_0 : decode c_179 0 = .ok (.aload_n 0, 1) := by decide +kernel
theorem d_179_1 : decode c_179 1 = .ok (.aload_n 1, 1) := by decide +kernel
theorem d_179_2 : decode c_179 2 = .ok (.iload_n 2, 1) := by decide +kernel
theorem d_179_3 : decode c_179 3 = .ok (.invokevirtual 111, 3) := by decide +kernel
theorem d_179_6 : decode c_179 6 = .ok (.istore_n 3, 1) := by decide +kernel
theorem d_179_7 : decode c_179 7 = .ok (.iload_n 2, 1) := by decide +kernel
theorem d_179_8 : decode c_179 8 = .ok (.aload_n 0, 1) := by decide +kernel
theorem d_179_9 : decode c_179 9 = .ok (.getfield 15, 3) := by decide +kernel
theorem d_179_12 : decode c_179 12 = .ok (.imul, 1) := by decide +kernel
theorem d_179_13 : decode c_179 13 = .ok (.istore 4, 2) := by decide +kernel
theorem d_179_15 : decode c_179 15 = .ok (.iload 4, 2) := by decide +kernel
theorem d_179_17 : decode c_179 17 = .ok (.iload_n 3, 1) := by decide +kernel
theorem d_179_18 : decode c_179 18 = .ok (.if_icmp .ge (54), 3) := by decide +kernel
theorem d_179_21 : decode c_179 21 = .ok (.aload_n 1, 1) := by decide +kernel
theorem d_179_22 : decode c_179 22 = .ok (.iload 4, 2) := by decide +kernel
theorem d_179_24 : decode c_179 24 = .ok (.invokevirtual 114, 3) := by decide +kernel
theorem d_179_27 : decode c_179 27 = .ok (.istore 5, 2) := by decide +kernel
theorem d_179_29 : decode c_179 29 = .ok (.iconst (0), 1) := by decide +kernel
theorem d_179_30 : decode c_179 30 = .ok (.istore 6, 2) := by decide +kernel
theorem d_179_32 : decode c_179 32 = .ok (.iload 6, 2) := by decide +kernel
theorem d_179_34 : decode c_179 34 = .ok (.iload 5, 2) := by decide +kernel
theorem d_179_36 : decode c_179 36 = .ok (.if_icmp .ge (30), 3) := by decide +kernel
theorem d_179_39 : decode c_179 39 = .ok (.aload_n 0, 1) := by decide +kernel
theorem d_179_40 : decode c_179 40 = .ok (.getfield 30, 3) := by decide +kernel
theorem d_179_43 : decode c_179 43 = .ok (.aload_n 1, 1) := by decide +kernel
theorem d_179_44 : decode c_179 44 = .ok (.iload 4, 2) := by decide +kernel
theorem d_179_46 : decode c_179 46 = .ok (.invokevirtual 165, 3) := by decide +kernel
theorem d_179_49 : decode c_179 49 = .ok (.bipush (8), 2) := by decide +kernel
theorem d_179_51 : decode c_179 51 = .ok (.iload 6, 2) := by decide +kernel
theorem d_179_53 : decode c_179 53 = .ok (.imul, 1) := by decide +kernel
theorem d_179_54 : decode c_179 54 = .ok (.lushr, 1) := by decide +kernel
theorem d_179_55 : decode c_179 55 = .ok (.iconst (1), 1) := by decide +kernel
theorem d_179_56 : decode c_179 56 = .ok (.invokevirtual 117, 3) := by decide +kernel
theorem d_179_59 : decode c_179 59 = .ok (.pop, 1) := by decide +kernel
theorem d_179_60 : decode c_179 60 = .ok (.iinc 6 (1), 3) := by decide +kernel
theorem d_179_63 : decode c_179 63 = .ok (.goto (-31), 3) := by decide +kernel
theorem d_179_66 : decode c_179 66 = .ok (.iinc 4 (1), 3) := by decide +kernel
theorem d_179_69 : decode c_179 69 = .ok (.goto (-54), 3) := by decide +kernel
theorem d_179_72 : decode c_179 72 = .ok (.return_, 1) := by decide +kernel
set_option maxRecDepth 4000 in
theorem b_179_0 {mc ms : Nat} {X : Option (Nat × (Nat → Int32))} {T : aj_Tt} {Q : aj_Q} {J : aj_J} (hJ : aj_Cl 10 c_179 (none) false mc ms X T Q J) {o0 : Nat} {o1 : Nat} {x2 : Int32} {Z : aj_Z} {I : aj_I} {G : aj_G} {C : Nat × Nat} (k0 : Z.2.1 o0 = some (.inl 10)) (h0 : T 0 0 157 [.ref o0, .ref o1, .int x2] Z I G (fun r Z1 I1 G1 => J 6 [some (.ref o0), some (.ref o1), some (.int x2), none, none, none, none] (r.toList ++ []) Z1 I1 G1 C)) : J 0 [some (.ref o0), some (.ref o1), some (.int x2), none, none, none, none] [] Z I G C := by
  refine s_aload_n hJ d_179_0 rfl ?_
  refine s_aload_n hJ d_179_1 rfl ?_
  refine s_iload_n hJ d_179_2 rfl ?_
  exact s_V2 hJ lm_10_111 d_179_3 (Nat.le_of_ble_eq_true rfl) k0 (h0)
set_option maxRecDepth 4000 in
theorem b_179_6 {mc ms : Nat} {X : Option (Nat × (Nat → Int32))} {T : aj_Tt} {Q : aj_Q} {J : aj_J} (hJ : aj_Cl 10 c_179 (none) false mc ms X T Q J) {o0 : Nat} {o1 : Nat} {x2 : Int32} {w3 : Option Value} {w4 : Option Value} {w5 : Option Value} {w6 : Option Value} {s0 : Int32} {Z : aj_Z} {I : aj_I} {G : aj_G} {C : Nat × Nat} (k0 : Z.2.1 o0 = some (.inl 10)) (h0 : J 15 [some (.ref o0), some (.ref o1), some (.int x2), some (.int s0), some (.int (x2 * (I o0 3))), w5, w6] [] Z I G C) : J 6 [some (.ref o0), some (.ref o1), some (.int x2), w3, w4, w5, w6] [.int s0] Z I G C := by
  refine s_istore_n hJ d_179_6 (Nat.le_of_ble_eq_true rfl) ?_
  refine s_iload_n hJ d_179_7 rfl ?_
  refine s_aload_n hJ d_179_8 rfl ?_
  refine s_geti hJ lf_10_15 rfl d_179_9 k0 ?_
  refine s_imul hJ d_179_12 ?_
  refine s_istore hJ d_179_13 (Nat.le_of_ble_eq_true rfl) ?_
  exact h0
set_option maxRecDepth 4000 in
theorem b_179_15 {mc ms : Nat} {X : Option (Nat × (Nat → Int32))} {T : aj_Tt} {Q : aj_Q} {J : aj_J} (hJ : aj_Cl 10 c_179 (none) false mc ms X T Q J) {o0 : Nat} {o1 : Nat} {w2 : Option Value} {x3 : Int32} {x4 : Int32} {w5 : Option Value} {w6 : Option Value} {Z : aj_Z} {I : aj_I} {G : aj_G} {C : Nat × Nat} (h0 : x3 ≤ x4 → Q none Z I G) (k0 : Z.2.1 o1 = some (.inl 8)) (h1 : ¬ x3 ≤ x4 → T 0 0 133 [.ref o1, .int x4] Z I G (fun r Z1 I1 G1 => J 27 [some (.ref o0), some (.ref o1), w2, some (.int x3), some (.int x4), w5, w6] (r.toList ++ []) Z1 I1 G1 C)) : J 15 [some (.ref o0), some (.ref o1), w2, some (.int x3), some (.int x4), w5, w6] [] Z I G C := by
  refine s_iload hJ d_179_15 rfl ?_
  refine s_iload_n hJ d_179_17 rfl ?_
  refine s_icmp_ge (tgt := 72) hJ d_179_18 rfl (fun c0 => ?_) (fun c0 => ?_)
  · skip
    exact s_vret hJ d_179_72 rfl (h0 c0)
  · skip
    refine s_aload_n hJ d_179_21 rfl ?_
    refine s_iload hJ d_179_22 rfl ?_
    exact s_V1 hJ lm_10_114 d_179_24 (Nat.le_of_ble_eq_true rfl) k0 (h1 c0)
set_option maxRecDepth 4000 in
theorem b_179_27 {mc ms : Nat} {X : Option (Nat × (Nat → Int32))} {T : aj_Tt} {Q : aj_Q} {J : aj_J} (hJ : aj_Cl 10 c_179 (none) false mc ms X T Q J) {o0 : Nat} {o1 : Nat} {w2 : Option Value} {x3 : Int32} {x4 : Int32} {w5 : Option Value} {w6 : Option Value} {s0 : Int32} {Z : aj_Z} {I : aj_I} {G : aj_G} {C : Nat × Nat} (h0 : J 32 [some (.ref o0), some (.ref o1), w2, some (.int x3), some (.int x4), some (.int s0), some (.int 0)] [] Z I G C) : J 27 [some (.ref o0), some (.ref o1), w2, some (.int x3), some (.int x4), w5, w6] [.int s0] Z I G C := by
  refine s_istore hJ d_179_27 (Nat.le_of_ble_eq_true rfl) ?_
  refine s_iconst_0 hJ d_179_29 ?_
  refine s_istore hJ d_179_30 (Nat.le_of_ble_eq_true rfl) ?_
  exact h0
set_option maxRecDepth 4000 in
theorem b_179_32 {mc ms : Nat} {X : Option (Nat × (Nat → Int32))} {T : aj_Tt} {Q : aj_Q} {J : aj_J} (hJ : aj_Cl 10 c_179 (none) false mc ms X T Q J) {o0 : Nat} {o1 : Nat} {w2 : Option Value} {x3 : Int32} {x4 : Int32} {x5 : Int32} {x6 : Int32} {q0 : Nat} {Z : aj_Z} {I : aj_I} {G : aj_G} {C : Nat × Nat} (h0 : x5 ≤ x6 → J 15 [some (.ref o0), some (.ref o1), w2, some (.int x3), some (.int (x4 + 1)), some (.int x5), some (.int x6)] [] Z I G C) (k0 : Z.2.1 o0 = some (.inl 10)) (r0 : Z.2.2 o0 1 = .ref q0) (k1 : Z.2.1 o1 = some (.inl 8)) (h1 : ¬ x5 ≤ x6 → T 0 0 135 [.ref o1, .int x4] Z I G (fun r Z1 I1 G1 => J 49 [some (.ref o0), some (.ref o1), w2, some (.int x3), some (.int x4), some (.int x5), some (.int x6)] (r.toList ++ [.ref q0]) Z1 I1 G1 C)) : J 32 [some (.ref o0), some (.ref o1), w2, some (.int x3), some (.int x4), some (.int x5), some (.int x6)] [] Z I G C := by
  refine s_iload hJ d_179_32 rfl ?_
  refine s_iload hJ d_179_34 rfl ?_
  refine s_icmp_ge (tgt := 66) hJ d_179_36 rfl (fun c0 => ?_) (fun c0 => ?_)
  · skip
    refine s_iinc (v := 1) hJ d_179_66 rfl (by decide) ?_
    refine s_goto (tgt := 15) hJ d_179_69 rfl ?_
    exact h0 c0
  · skip
    refine s_aload_n hJ d_179_39 rfl ?_
    refine s_getr hJ lf_10_30 rfl d_179_40 k0 r0 ?_
    refine s_aload_n hJ d_179_43 rfl ?_
    refine s_iload hJ d_179_44 rfl ?_
    exact s_V1 hJ lm_10_165 d_179_46 (Nat.le_of_ble_eq_true rfl) k1 (h1 c0)
set_option maxRecDepth 4000 in
theorem b_179_49 {mc ms : Nat} {X : Option (Nat × (Nat → Int32))} {T : aj_Tt} {Q : aj_Q} {J : aj_J} (hJ : aj_Cl 10 c_179 (none) false mc ms X T Q J) {o0 : Nat} {o1 : Nat} {w2 : Option Value} {x3 : Int32} {x4 : Int32} {x5 : Int32} {x6 : Int32} {s0 : Int64} {s1 : Nat} {Z : aj_Z} {I : aj_I} {G : aj_G} {C : Nat × Nat} (k0 : Z.2.1 s1 = some (.inl 2)) (h0 : T 0 0 85 [.ref s1, .long (Int64.toUInt64 s0 >>> ((Int32.toInt64 (8 * x6)).toUInt64 &&& Int64.toUInt64 63)).toInt64, .int 1] Z I G (fun r Z1 I1 G1 => J 59 [some (.ref o0), some (.ref o1), w2, some (.int x3), some (.int x4), some (.int x5), some (.int x6)] (r.toList ++ []) Z1 I1 G1 C)) : J 49 [some (.ref o0), some (.ref o1), w2, some (.int x3), some (.int x4), some (.int x5), some (.int x6)] [.long s0, .ref s1] Z I G C := by
  refine s_bipush (v := 8) hJ d_179_49 (by decide) ?_
  refine s_iload hJ d_179_51 rfl ?_
  refine s_imul hJ d_179_53 ?_
  refine s_lushr hJ d_179_54 ?_
  refine s_iconst_1 hJ d_179_55 ?_
  exact s_V2 hJ lm_10_117 d_179_56 (Nat.le_of_ble_eq_true rfl) k0 (h0)
set_option maxRecDepth 4000 in
theorem b_179_59 {mc ms : Nat} {X : Option (Nat × (Nat → Int32))} {T : aj_Tt} {Q : aj_Q} {J : aj_J} (hJ : aj_Cl 10 c_179 (none) false mc ms X T Q J) {o0 : Nat} {o1 : Nat} {w2 : Option Value} {x3 : Int32} {x4 : Int32} {x5 : Int32} {x6 : Int32} {s0 : Int32} {Z : aj_Z} {I : aj_I} {G : aj_G} {C : Nat × Nat} (h0 : J 32 [some (.ref o0), some (.ref o1), w2, some (.int x3), some (.int x4), some (.int x5), some (.int (x6 + 1))] [] Z I G C) : J 59 [some (.ref o0), some (.ref o1), w2, some (.int x3), some (.int x4), some (.int x5), some (.int x6)] [.int s0] Z I G C := by
  refine s_pop hJ d_179_59 rfl ?_
  refine s_iinc (v := 1) hJ d_179_60 rfl (by decide) ?_
  refine s_goto (tgt := 32) hJ d_179_63 rfl ?_
  exact h0
-- ReelOfBoxes.<init>()V : method 0
theorem d_0_0 : decode c_0 0 = .ok (.aload_n 0, 1) := by decide +kernel
theorem d_0_1 : decode c_0 1 = .ok (.invokespecial 1, 3) := by decide +kernel
theorem d_0_4 : decode c_0 4 = .ok (.aload_n 0, 1) := by decide +kernel
theorem d_0_5 : decode c_0 5 = .ok (.new 7, 3) := by decide +kernel
theorem d_0_8 : decode c_0 8 = .ok (.dup, 1) := by decide +kernel
theorem d_0_9 : decode c_0 9 = .ok (.invokespecial 9, 3) := by decide +kernel
theorem d_0_12 : decode c_0 12 = .ok (.putfield 10, 3) := by decide +kernel
theorem d_0_15 : decode c_0 15 = .ok (.aload_n 0, 1) := by decide +kernel
theorem d_0_16 : decode c_0 16 = .ok (.new 16, 3) := by decide +kernel
theorem d_0_19 : decode c_0 19 = .ok (.dup, 1) := by decide +kernel
theorem d_0_20 : decode c_0 20 = .ok (.invokespecial 18, 3) := by decide +kernel
theorem d_0_23 : decode c_0 23 = .ok (.putfield 19, 3) := by decide +kernel
theorem d_0_26 : decode c_0 26 = .ok (.aload_n 0, 1) := by decide +kernel
theorem d_0_27 : decode c_0 27 = .ok (.new 23, 3) := by decide +kernel
theorem d_0_30 : decode c_0 30 = .ok (.dup, 1) := by decide +kernel
theorem d_0_31 : decode c_0 31 = .ok (.aload_n 0, 1) := by decide +kernel
theorem d_0_32 : decode c_0 32 = .ok (.getfield 19, 3) := by decide +kernel
theorem d_0_35 : decode c_0 35 = .ok (.invokespecial 25, 3) := by decide +kernel
theorem d_0_38 : decode c_0 38 = .ok (.putfield 28, 3) := by decide +kernel
theorem d_0_41 : decode c_0 41 = .ok (.aload_n 0, 1) := by decide +kernel
theorem d_0_42 : decode c_0 42 = .ok (.new 32, 3) := by decide +kernel
theorem d_0_45 : decode c_0 45 = .ok (.dup, 1) := by decide +kernel
theorem d_0_46 : decode c_0 46 = .ok (.aload_n 0, 1) := by decide +kernel
theorem d_0_47 : decode c_0 47 = .ok (.getfield 10, 3) := by decide +kernel
theorem d_0_50 : decode c_0 50 = .ok (.aload_n 0, 1) := by decide +kernel
theorem d_0_51 : decode c_0 51 = .ok (.getfield 19, 3) := by decide +kernel
theorem d_0_54 : decode c_0 54 = .ok (.invokespecial 34, 3) := by decide +kernel
theorem d_0_57 : decode c_0 57 = .ok (.putfield 37, 3) := by decide +kernel
theorem d_0_60 : decode c_0 60 = .ok (.return_, 1) := by decide +kernel
-- ReelOfBoxes.track()I : method 1
theorem d_1_0 : decode c_1 0 = .ok (.aload_n 0, 1) := by decide +kernel
theorem d_1_1 : decode c_1 1 = .ok (.getfield 10, 3) := by decide +kernel
theorem d_1_4 : decode c_1 4 = .ok (.invokevirtual 41, 3) := by decide +kernel
theorem d_1_7 : decode c_1 7 = .ok (.ireturn, 1) := by decide +kernel
set_option maxRecDepth 4000 in
theorem b_1_0 {mc ms : Nat} {X : Option (Nat × (Nat → Int32))} {T : aj_Tt} {Q : aj_Q} {J : aj_J} (hJ : aj_Cl 0 c_1 (some .int) false mc ms X T Q J) {o0 : Nat} {q0 : Nat} {Z : aj_Z} {I : aj_I} {G : aj_G} {C : Nat × Nat} (k0 : Z.2.1 o0 = some (.inl 0)) (r0 : Z.2.2 o0 0 = .ref q0) (k1 : Z.2.1 q0 = some (.inl 6)) (h0 : T 0 0 113 [.ref q0] Z I G (fun r Z1 I1 G1 => J 7 [some (.ref o0)] (r.toList ++ []) Z1 I1 G1 C)) : J 0 [some (.ref o0)] [] Z I G C := by
  refine s_aload_n hJ d_1_0 rfl ?_
  refine s_getr hJ lf_0_10 rfl d_1_1 k0 r0 ?_
  exact s_V0 hJ lm_0_41 d_1_4 (Nat.le_of_ble_eq_true rfl) k1 (h0)
set_option maxRecDepth 4000 in
theorem b_1_7 {mc ms : Nat} {X : Option (Nat × (Nat → Int32))} {T : aj_Tt} {Q : aj_Q} {J : aj_J} (hJ : aj_Cl 0 c_1 (some .int) false mc ms X T Q J) {w0 : Option Value} {s0 : Int32} {Z : aj_Z} {I : aj_I} {G : aj_G} {C : Nat × Nat} (h0 : Q (some (.int s0)) Z I G) : J 7 [w0] [.int s0] Z I G C := by
  exact s_iret hJ d_1_7 rfl rfl (h0)
-- ReelOfBoxes.sample(IIJI)I : method 2
theorem d_2_0 : decode c_2 0 = .ok (.aload_n 0, 1) := by decide +kernel
theorem d_2_1 : decode c_2 1 = .ok (.getfield 10, 3) := by decide +kernel
theorem d_2_4 : decode c_2 4 = .ok (.iload_n 1, 1) := by decide +kernel
theorem d_2_5 : decode c_2 5 = .ok (.invokevirtual 45, 3) := by decide +kernel
theorem d_2_8 : decode c_2 8 = .ok (.astore 6, 2) := by decide +kernel
theorem d_2_10 : decode c_2 10 = .ok (.aload 6, 2) := by decide +kernel
theorem d_2_12 : decode c_2 12 = .ok (.ifnonnull (7), 3) := by decide +kernel
theorem d_2_15 : decode c_2 15 = .ok (.iconst (-1), 1) := by decide +kernel
theorem d_2_16 : decode c_2 16 = .ok (.goto (12), 3) := by decide +kernel
theorem d_2_19 : decode c_2 19 = .ok (.aload 6, 2) := by decide +kernel
theorem d_2_21 : decode c_2 21 = .ok (.iload_n 2, 1) := by decide +kernel
theorem d_2_22 : decode c_2 22 = .ok (.lload_n 3, 1) := by decide +kernel
theorem d_2_23 : decode c_2 23 = .ok (.iload 5, 2) := by decide +kernel
theorem d_2_25 : decode c_2 25 = .ok (.invokevirtual 49, 3) := by decide +kernel
theorem d_2_28 : decode c_2 28 = .ok (.ireturn, 1) := by decide +kernel
set_option maxRecDepth 4000 in
theorem b_2_0 {mc ms : Nat} {X : Option (Nat × (Nat → Int32))} {T : aj_Tt} {Q : aj_Q} {J : aj_J} (hJ : aj_Cl 0 c_2 (some .int) false mc ms X T Q J) {o0 : Nat} {x1 : Int32} {x2 : Int32} {x3 : Int64} {x5 : Int32} {q0 : Nat} {Z : aj_Z} {I : aj_I} {G : aj_G} {C : Nat × Nat} (k0 : Z.2.1 o0 = some (.inl 0)) (r0 : Z.2.2 o0 0 = .ref q0) (k1 : Z.2.1 q0 = some (.inl 6)) (h0 : T 0 0 112 [.ref q0, .int x1] Z I G (fun r Z1 I1 G1 => J 8 [some (.ref o0), some (.int x1), some (.int x2), some (.long x3), none, some (.int x5), none] (r.toList ++ []) Z1 I1 G1 C)) : J 0 [some (.ref o0), some (.int x1), some (.int x2), some (.long x3), none, some (.int x5), none] [] Z I G C := by
  refine s_aload_n hJ d_2_0 rfl ?_
  refine s_getr hJ lf_0_10 rfl d_2_1 k0 r0 ?_
  refine s_iload_n hJ d_2_4 rfl ?_
  exact s_V1 hJ lm_0_45 d_2_5 (Nat.le_of_ble_eq_true rfl) k1 (h0)
set_option maxRecDepth 4000 in
theorem b_2_8 {mc ms : Nat} {X : Option (Nat × (Nat → Int32))} {T : aj_Tt} {Q : aj_Q} {J : aj_J} (hJ : aj_Cl 0 c_2 (some .int) false mc ms X T Q J) {w0 : Option Value} {w1 : Option Value} {x2 : Int32} {x3 : Int64} {w4 : Option Value} {x5 : Int32} {w6 : Option Value} {s0 : Nat} {Z : aj_Z} {I : aj_I} {G : aj_G} {C : Nat × Nat} (k0 : Z.2.1 s0 = some (.inl 8)) (h0 : T 0 0 132 [.ref s0, .int x2, .long x3, .int x5] Z I G (fun r Z1 I1 G1 => J 28 [w0, w1, some (.int x2), some (.long x3), w4, some (.int x5), some (.ref s0)] (r.toList ++ []) Z1 I1 G1 C)) : J 8 [w0, w1, some (.int x2), some (.long x3), w4, some (.int x5), w6] [.ref s0] Z I G C := by
  refine s_astore hJ d_2_8 (Nat.le_of_ble_eq_true rfl) ?_
  refine s_aload hJ d_2_10 rfl ?_
  refine s_ifnonnull (tgt := 19) hJ d_2_12 rfl ?_
  refine s_aload hJ d_2_19 rfl ?_
  refine s_iload_n hJ d_2_21 rfl ?_
  refine s_lload_n hJ d_2_22 rfl ?_
  refine s_iload hJ d_2_23 rfl ?_
  exact s_V3 hJ lm_0_49 d_2_25 (Nat.le_of_ble_eq_true rfl) k0 (h0)
set_option maxRecDepth 4000 in
theorem b_2_8N {mc ms : Nat} {X : Option (Nat × (Nat → Int32))} {T : aj_Tt} {Q : aj_Q} {J : aj_J} (hJ : aj_Cl 0 c_2 (some .int) false mc ms X T Q J) {w0 : Option Value} {w1 : Option Value} {x2 : Int32} {x3 : Int64} {w4 : Option Value} {x5 : Int32} {w6 : Option Value} {Z : aj_Z} {I : aj_I} {G : aj_G} {C : Nat × Nat} (h0 : J 28 [w0, w1, some (.int x2), some (.long x3), w4, some (.int x5), some (.null)] [.int (-1)] Z I G C) : J 8 [w0, w1, some (.int x2), some (.long x3), w4, some (.int x5), w6] [.null] Z I G C := by
  refine s_astoreN hJ d_2_8 (Nat.le_of_ble_eq_true rfl) ?_
  refine s_aloadN hJ d_2_10 rfl ?_
  refine s_ifnonnullN hJ d_2_12 ?_
  refine s_iconst_m1 hJ d_2_15 ?_
  refine s_goto (tgt := 28) hJ d_2_16 rfl ?_
  exact h0
set_option maxRecDepth 4000 in
theorem b_2_28 {mc ms : Nat} {X : Option (Nat × (Nat → Int32))} {T : aj_Tt} {Q : aj_Q} {J : aj_J} (hJ : aj_Cl 0 c_2 (some .int) false mc ms X T Q J) {w0 : Option Value} {w1 : Option Value} {w2 : Option Value} {w3 : Option Value} {w4 : Option Value} {w5 : Option Value} {w6 : Option Value} {s0 : Int32} {Z : aj_Z} {I : aj_I} {G : aj_G} {C : Nat × Nat} (h0 : Q (some (.int s0)) Z I G) : J 28 [w0, w1, w2, w3, w4, w5, w6] [.int s0] Z I G C := by
  exact s_iret hJ d_2_28 rfl rfl (h0)
-- ReelOfBoxes.clear()I : method 3
theorem d_3_0 : decode c_3 0 = .ok (.aload_n 0, 1) := by decide +kernel
theorem d_3_1 : decode c_3 1 = .ok (.getfield 10, 3) := by decide +kernel
theorem d_3_4 : decode c_3 4 = .ok (.invokevirtual 55, 3) := by decide +kernel
theorem d_3_7 : decode c_3 7 = .ok (.ireturn, 1) := by decide +kernel
set_option maxRecDepth 4000 in
theorem b_3_0 {mc ms : Nat} {X : Option (Nat × (Nat → Int32))} {T : aj_Tt} {Q : aj_Q} {J : aj_J} (hJ : aj_Cl 0 c_3 (some .int) false mc ms X T Q J) {o0 : Nat} {q0 : Nat} {Z : aj_Z} {I : aj_I} {G : aj_G} {C : Nat × Nat} (k0 : Z.2.1 o0 = some (.inl 0)) (r0 : Z.2.2 o0 0 = .ref q0) (k1 : Z.2.1 q0 = some (.inl 6)) (h0 : T 0 0 114 [.ref q0] Z I G (fun r Z1 I1 G1 => J 7 [some (.ref o0)] (r.toList ++ []) Z1 I1 G1 C)) : J 0 [some (.ref o0)] [] Z I G C := by
  refine s_aload_n hJ d_3_0 rfl ?_
  refine s_getr hJ lf_0_10 rfl d_3_1 k0 r0 ?_
  exact s_V0 hJ lm_0_55 d_3_4 (Nat.le_of_ble_eq_true rfl) k1 (h0)
set_option maxRecDepth 4000 in
theorem b_3_7 {mc ms : Nat} {X : Option (Nat × (Nat → Int32))} {T : aj_Tt} {Q : aj_Q} {J : aj_J} (hJ : aj_Cl 0 c_3 (some .int) false mc ms X T Q J) {w0 : Option Value} {s0 : Int32} {Z : aj_Z} {I : aj_I} {G : aj_G} {C : Nat × Nat} (h0 : Q (some (.int s0)) Z I G) : J 7 [w0] [.int s0] Z I G C := by
  exact s_iret hJ d_3_7 rfl rfl (h0)
-- ReelOfBoxes.write(II)I : method 4
theorem d_4_0 : decode c_4 0 = .ok (.iload_n 1, 1) := by decide +kernel
theorem d_4_1 : decode c_4 1 = .ok (.iconst (1), 1) := by decide +kernel
theorem d_4_2 : decode c_4 2 = .ok (.if_icmp .lt (18), 3) := by decide +kernel
theorem d_4_5 : decode c_4 5 = .ok (.iload_n 1, 1) := by decide +kernel
theorem d_4_6 : decode c_4 6 = .ok (.bipush (16), 2) := by decide +kernel
theorem d_4_8 : decode c_4 8 = .ok (.if_icmp .gt (12), 3) := by decide +kernel
theorem d_4_11 : decode c_4 11 = .ok (.iload_n 2, 1) := by decide +kernel
theorem d_4_12 : decode c_4 12 = .ok (.ifCond .lt (8), 3) := by decide +kernel
theorem d_4_15 : decode c_4 15 = .ok (.iload_n 2, 1) := by decide +kernel
theorem d_4_16 : decode c_4 16 = .ok (.iconst (3), 1) := by decide +kernel
theorem d_4_17 : decode c_4 17 = .ok (.if_icmp .le (5), 3) := by decide +kernel
theorem d_4_20 : decode c_4 20 = .ok (.iconst (0), 1) := by decide +kernel
theorem d_4_21 : decode c_4 21 = .ok (.ireturn, 1) := by decide +kernel
theorem d_4_22 : decode c_4 22 = .ok (.aload_n 0, 1) := by decide +kernel
theorem d_4_23 : decode c_4 23 = .ok (.getfield 37, 3) := by decide +kernel
theorem d_4_26 : decode c_4 26 = .ok (.iload_n 1, 1) := by decide +kernel
theorem d_4_27 : decode c_4 27 = .ok (.iload_n 2, 1) := by decide +kernel
theorem d_4_28 : decode c_4 28 = .ok (.invokevirtual 58, 3) := by decide +kernel
theorem d_4_31 : decode c_4 31 = .ok (.ireturn, 1) := by decide +kernel
set_option maxRecDepth 4000 in
theorem b_4_0 {mc ms : Nat} {X : Option (Nat × (Nat → Int32))} {T : aj_Tt} {Q : aj_Q} {J : aj_J} (hJ : aj_Cl 0 c_4 (some .int) false mc ms X T Q J) {o0 : Nat} {x1 : Int32} {x2 : Int32} {q0 : Nat} {Z : aj_Z} {I : aj_I} {G : aj_G} {C : Nat × Nat} (h0 : x1 < 1 → Q (some (.int 0)) Z I G) (h1 : ¬ x1 < 1 → 16 < x1 → Q (some (.int 0)) Z I G) (h2 : ¬ x1 < 1 → ¬ 16 < x1 → x2 < 0 → Q (some (.int 0)) Z I G) (k0 : Z.2.1 o0 = some (.inl 0)) (r0 : Z.2.2 o0 3 = .ref q0) (k1 : Z.2.1 q0 = some (.inl 10)) (h3 : ¬ x1 < 1 → ¬ 16 < x1 → ¬ x2 < 0 → x2 ≤ 3 → T 0 0 155 [.ref q0, .int x1, .int x2] Z I G (fun r Z1 I1 G1 => J 31 [some (.ref o0), some (.int x1), some (.int x2)] (r.toList ++ []) Z1 I1 G1 C)) (h4 : ¬ x1 < 1 → ¬ 16 < x1 → ¬ x2 < 0 → ¬ x2 ≤ 3 → Q (some (.int 0)) Z I G) : J 0 [some (.ref o0), some (.int x1), some (.int x2)] [] Z I G C := by
  refine s_iload_n hJ d_4_0 rfl ?_
  refine s_iconst_1 hJ d_4_1 ?_
  refine s_icmp_lt (tgt := 20) hJ d_4_2 rfl (fun c0 => ?_) (fun c0 => ?_)
  · skip
    refine s_iconst_0 hJ d_4_20 ?_
    exact s_iret hJ d_4_21 rfl rfl (h0 c0)
  · skip
    refine s_iload_n hJ d_4_5 rfl ?_
    refine s_bipush (v := 16) hJ d_4_6 (by decide) ?_
    refine s_icmp_gt (tgt := 20) hJ d_4_8 rfl (fun c1 => ?_) (fun c1 => ?_)
    · skip
      refine s_iconst_0 hJ d_4_20 ?_
      exact s_iret hJ d_4_21 rfl rfl (h1 c0 c1)
    · skip
      refine s_iload_n hJ d_4_11 rfl ?_
      refine s_if_lt (tgt := 20) hJ d_4_12 rfl (fun c2 => ?_) (fun c2 => ?_)
      · skip
        refine s_iconst_0 hJ d_4_20 ?_
        exact s_iret hJ d_4_21 rfl rfl (h2 c0 c1 c2)
      · skip
        refine s_iload_n hJ d_4_15 rfl ?_
        refine s_iconst_3 hJ d_4_16 ?_
        refine s_icmp_le (tgt := 22) hJ d_4_17 rfl (fun c3 => ?_) (fun c3 => ?_)
        · skip
          refine s_aload_n hJ d_4_22 rfl ?_
          refine s_getr hJ lf_0_37 rfl d_4_23 k0 r0 ?_
          refine s_iload_n hJ d_4_26 rfl ?_
          refine s_iload_n hJ d_4_27 rfl ?_
          exact s_V2 hJ lm_0_58 d_4_28 (Nat.le_of_ble_eq_true rfl) k1 (h3 c0 c1 c2 c3)
        · skip
          refine s_iconst_0 hJ d_4_20 ?_
          exact s_iret hJ d_4_21 rfl rfl (h4 c0 c1 c2 c3)
set_option maxRecDepth 4000 in
theorem b_4_31 {mc ms : Nat} {X : Option (Nat × (Nat → Int32))} {T : aj_Tt} {Q : aj_Q} {J : aj_J} (hJ : aj_Cl 0 c_4 (some .int) false mc ms X T Q J) {w0 : Option Value} {w1 : Option Value} {w2 : Option Value} {s0 : Int32} {Z : aj_Z} {I : aj_I} {G : aj_G} {C : Nat × Nat} (h0 : Q (some (.int s0)) Z I G) : J 31 [w0, w1, w2] [.int s0] Z I G C := by
  exact s_iret hJ d_4_31 rfl rfl (h0)
-- ReelOfBoxes.read()I : method 5
theorem d_5_0 : decode c_5 0 = .ok (.aload_n 0, 1) := by decide +kernel
theorem d_5_1 : decode c_5 1 = .ok (.getfield 28, 3) := by decide +kernel
theorem d_5_4 : decode c_5 4 = .ok (.aload_n 0, 1) := by decide +kernel
theorem d_5_5 : decode c_5 5 = .ok (.getfield 10, 3) := by decide +kernel
theorem d_5_8 : decode c_5 8 = .ok (.invokevirtual 62, 3) := by decide +kernel
theorem d_5_11 : decode c_5 11 = .ok (.ireturn, 1) := by decide +kernel
set_option maxRecDepth 4000 in
theorem b_5_0 {mc ms : Nat} {X : Option (Nat × (Nat → Int32))} {T : aj_Tt} {Q : aj_Q} {J : aj_J} (hJ : aj_Cl 0 c_5 (some .int) false mc ms X T Q J) {o0 : Nat} {q0 : Nat} {q1 : Nat} {Z : aj_Z} {I : aj_I} {G : aj_G} {C : Nat × Nat} (k0 : Z.2.1 o0 = some (.inl 0)) (r0 : Z.2.2 o0 2 = .ref q0) (r1 : Z.2.2 o0 0 = .ref q1) (k1 : Z.2.1 q0 = some (.inl 5)) (h0 : T 0 0 104 [.ref q0, .ref q1] Z I G (fun r Z1 I1 G1 => J 11 [some (.ref o0)] (r.toList ++ []) Z1 I1 G1 C)) : J 0 [some (.ref o0)] [] Z I G C := by
  refine s_aload_n hJ d_5_0 rfl ?_
  refine s_getr hJ lf_0_28 rfl d_5_1 k0 r0 ?_
  refine s_aload_n hJ d_5_4 rfl ?_
  refine s_getr hJ lf_0_10 rfl d_5_5 k0 r1 ?_
  exact s_V1 hJ lm_0_62 d_5_8 (Nat.le_of_ble_eq_true rfl) k1 (h0)
set_option maxRecDepth 4000 in
theorem b_5_11 {mc ms : Nat} {X : Option (Nat × (Nat → Int32))} {T : aj_Tt} {Q : aj_Q} {J : aj_J} (hJ : aj_Cl 0 c_5 (some .int) false mc ms X T Q J) {w0 : Option Value} {s0 : Int32} {Z : aj_Z} {I : aj_I} {G : aj_G} {C : Nat × Nat} (h0 : Q (some (.int s0)) Z I G) : J 11 [w0] [.int s0] Z I G C := by
  exact s_iret hJ d_5_11 rfl rfl (h0)
-- ReelOfBoxes.place()I : method 6
theorem d_6_0 : decode c_6 0 = .ok (.aload_n 0, 1) := by decide +kernel
theorem d_6_1 : decode c_6 1 = .ok (.getfield 28, 3) := by decide +kernel
theorem d_6_4 : decode c_6 4 = .ok (.invokevirtual 66, 3) := by decide +kernel
theorem d_6_7 : decode c_6 7 = .ok (.ireturn, 1) := by decide +kernel
set_option maxRecDepth 4000 in
theorem b_6_0 {mc ms : Nat} {X : Option (Nat × (Nat → Int32))} {T : aj_Tt} {Q : aj_Q} {J : aj_J} (hJ : aj_Cl 0 c_6 (some .int) false mc ms X T Q J) {o0 : Nat} {q0 : Nat} {Z : aj_Z} {I : aj_I} {G : aj_G} {C : Nat × Nat} (k0 : Z.2.1 o0 = some (.inl 0)) (r0 : Z.2.2 o0 2 = .ref q0) (k1 : Z.2.1 q0 = some (.inl 5)) (h0 : T 0 0 103 [.ref q0] Z I G (fun r Z1 I1 G1 => J 7 [some (.ref o0)] (r.toList ++ []) Z1 I1 G1 C)) : J 0 [some (.ref o0)] [] Z I G C := by
  refine s_aload_n hJ d_6_0 rfl ?_
  refine s_getr hJ lf_0_28 rfl d_6_1 k0 r0 ?_
  exact s_V0 hJ lm_0_66 d_6_4 (Nat.le_of_ble_eq_true rfl) k1 (h0)
set_option maxRecDepth 4000 in
theorem b_6_7 {mc ms : Nat} {X : Option (Nat × (Nat → Int32))} {T : aj_Tt} {Q : aj_Q} {J : aj_J} (hJ : aj_Cl 0 c_6 (some .int) false mc ms X T Q J) {w0 : Option Value} {s0 : Int32} {Z : aj_Z} {I : aj_I} {G : aj_G} {C : Nat × Nat} (h0 : Q (some (.int s0)) Z I G) : J 7 [w0] [.int s0] Z I G C := by
  exact s_iret hJ d_6_7 rfl rfl (h0)
-- ReelOfBoxes.tracks()I : method 7
theorem d_7_0 : decode c_7 0 = .ok (.aload_n 0, 1) := by decide +kernel
theorem d_7_1 : decode c_7 1 = .ok (.getfield 10, 3) := by decide +kernel
theorem d_7_4 : decode c_7 4 = .ok (.invokevirtual 69, 3) := by decide +kernel
theorem d_7_7 : decode c_7 7 = .ok (.ireturn, 1) := by decide +kernel
set_option maxRecDepth 4000 in
theorem b_7_0 {mc ms : Nat} {X : Option (Nat × (Nat → Int32))} {T : aj_Tt} {Q : aj_Q} {J : aj_J} (hJ : aj_Cl 0 c_7 (some .int) false mc ms X T Q J) {o0 : Nat} {q0 : Nat} {Z : aj_Z} {I : aj_I} {G : aj_G} {C : Nat × Nat} (k0 : Z.2.1 o0 = some (.inl 0)) (r0 : Z.2.2 o0 0 = .ref q0) (k1 : Z.2.1 q0 = some (.inl 6)) (h0 : T 0 0 111 [.ref q0] Z I G (fun r Z1 I1 G1 => J 7 [some (.ref o0)] (r.toList ++ []) Z1 I1 G1 C)) : J 0 [some (.ref o0)] [] Z I G C := by
  refine s_aload_n hJ d_7_0 rfl ?_
  refine s_getr hJ lf_0_10 rfl d_7_1 k0 r0 ?_
  exact s_V0 hJ lm_0_69 d_7_4 (Nat.le_of_ble_eq_true rfl) k1 (h0)
set_option maxRecDepth 4000 in
theorem b_7_7 {mc ms : Nat} {X : Option (Nat × (Nat → Int32))} {T : aj_Tt} {Q : aj_Q} {J : aj_J} (hJ : aj_Cl 0 c_7 (some .int) false mc ms X T Q J) {w0 : Option Value} {s0 : Int32} {Z : aj_Z} {I : aj_I} {G : aj_G} {C : Nat × Nat} (h0 : Q (some (.int s0)) Z I G) : J 7 [w0] [.int s0] Z I G C := by
  exact s_iret hJ d_7_7 rfl rfl (h0)
-- ReelOfBoxes.samples(I)I : method 8
theorem d_8_0 : decode c_8 0 = .ok (.aload_n 0, 1) := by decide +kernel
theorem d_8_1 : decode c_8 1 = .ok (.getfield 10, 3) := by decide +kernel
theorem d_8_4 : decode c_8 4 = .ok (.iload_n 1, 1) := by decide +kernel
theorem d_8_5 : decode c_8 5 = .ok (.invokevirtual 45, 3) := by decide +kernel
theorem d_8_8 : decode c_8 8 = .ok (.astore_n 2, 1) := by decide +kernel
theorem d_8_9 : decode c_8 9 = .ok (.aload_n 2, 1) := by decide +kernel
theorem d_8_10 : decode c_8 10 = .ok (.ifnonnull (7), 3) := by decide +kernel
theorem d_8_13 : decode c_8 13 = .ok (.iconst (-1), 1) := by decide +kernel
theorem d_8_14 : decode c_8 14 = .ok (.goto (7), 3) := by decide +kernel
theorem d_8_17 : decode c_8 17 = .ok (.aload_n 2, 1) := by decide +kernel
theorem d_8_18 : decode c_8 18 = .ok (.invokevirtual 72, 3) := by decide +kernel
theorem d_8_21 : decode c_8 21 = .ok (.ireturn, 1) := by decide +kernel
set_option maxRecDepth 4000 in
theorem b_8_0 {mc ms : Nat} {X : Option (Nat × (Nat → Int32))} {T : aj_Tt} {Q : aj_Q} {J : aj_J} (hJ : aj_Cl 0 c_8 (some .int) false mc ms X T Q J) {o0 : Nat} {x1 : Int32} {q0 : Nat} {Z : aj_Z} {I : aj_I} {G : aj_G} {C : Nat × Nat} (k0 : Z.2.1 o0 = some (.inl 0)) (r0 : Z.2.2 o0 0 = .ref q0) (k1 : Z.2.1 q0 = some (.inl 6)) (h0 : T 0 0 112 [.ref q0, .int x1] Z I G (fun r Z1 I1 G1 => J 8 [some (.ref o0), some (.int x1), none] (r.toList ++ []) Z1 I1 G1 C)) : J 0 [some (.ref o0), some (.int x1), none] [] Z I G C := by
  refine s_aload_n hJ d_8_0 rfl ?_
  refine s_getr hJ lf_0_10 rfl d_8_1 k0 r0 ?_
  refine s_iload_n hJ d_8_4 rfl ?_
  exact s_V1 hJ lm_0_45 d_8_5 (Nat.le_of_ble_eq_true rfl) k1 (h0)
set_option maxRecDepth 4000 in
theorem b_8_8 {mc ms : Nat} {X : Option (Nat × (Nat → Int32))} {T : aj_Tt} {Q : aj_Q} {J : aj_J} (hJ : aj_Cl 0 c_8 (some .int) false mc ms X T Q J) {w0 : Option Value} {w1 : Option Value} {w2 : Option Value} {s0 : Nat} {Z : aj_Z} {I : aj_I} {G : aj_G} {C : Nat × Nat} (k0 : Z.2.1 s0 = some (.inl 8)) (h0 : T 0 0 130 [.ref s0] Z I G (fun r Z1 I1 G1 => J 21 [w0, (aj_clr w1), some (.ref s0)] (r.toList ++ []) Z1 I1 G1 C)) : J 8 [w0, w1, w2] [.ref s0] Z I G C := by
  refine s_astore_n hJ d_8_8 (Nat.le_of_ble_eq_true rfl) ?_
  refine s_aload_n hJ d_8_9 rfl ?_
  refine s_ifnonnull (tgt := 17) hJ d_8_10 rfl ?_
  refine s_aload_n hJ d_8_17 rfl ?_
  exact s_V0 hJ lm_0_72 d_8_18 (Nat.le_of_ble_eq_true rfl) k0 (h0)
set_option maxRecDepth 4000 in
theorem b_8_8N {mc ms : Nat} {X : Option (Nat × (Nat → Int32))} {T : aj_Tt} {Q : aj_Q} {J : aj_J} (hJ : aj_Cl 0 c_8 (some .int) false mc ms X T Q J) {w0 : Option Value} {w1 : Option Value} {w2 : Option Value} {Z : aj_Z} {I : aj_I} {G : aj_G} {C : Nat × Nat} (h0 : J 21 [w0, (aj_clr w1), some (.null)] [.int (-1)] Z I G C) : J 8 [w0, w1, w2] [.null] Z I G C := by
  refine s_astore_nN hJ d_8_8 (Nat.le_of_ble_eq_true rfl) ?_
  refine s_aload_nN hJ d_8_9 rfl ?_
  refine s_ifnonnullN hJ d_8_10 ?_
  refine s_iconst_m1 hJ d_8_13 ?_
  refine s_goto (tgt := 21) hJ d_8_14 rfl ?_
  exact h0
set_option maxRecDepth 4000 in
theorem b_8_21 {mc ms : Nat} {X : Option (Nat × (Nat → Int32))} {T : aj_Tt} {Q : aj_Q} {J : aj_J} (hJ : aj_Cl 0 c_8 (some .int) false mc ms X T Q J) {w0 : Option Value} {w1 : Option Value} {w2 : Option Value} {s0 : Int32} {Z : aj_Z} {I : aj_I} {G : aj_G} {C : Nat × Nat} (h0 : Q (some (.int s0)) Z I G) : J 21 [w0, w1, w2] [.int s0] Z I G C := by
  exact s_iret hJ d_8_21 rfl rfl (h0)
-- ReelOfBoxes.size(II)I : method 9
theorem d_9_0 : decode c_9 0 = .ok (.aload_n 0, 1) := by decide +kernel
theorem d_9_1 : decode c_9 1 = .ok (.getfield 10, 3) := by decide +kernel
theorem d_9_4 : decode c_9 4 = .ok (.iload_n 1, 1) := by decide +kernel
theorem d_9_5 : decode c_9 5 = .ok (.invokevirtual 45, 3) := by decide +kernel
theorem d_9_8 : decode c_9 8 = .ok (.astore_n 3, 1) := by decide +kernel
theorem d_9_9 : decode c_9 9 = .ok (.aload_n 3, 1) := by decide +kernel
theorem d_9_10 : decode c_9 10 = .ok (.ifnonnull (7), 3) := by decide +kernel
theorem d_9_13 : decode c_9 13 = .ok (.iconst (-1), 1) := by decide +kernel
theorem d_9_14 : decode c_9 14 = .ok (.goto (8), 3) := by decide +kernel
theorem d_9_17 : decode c_9 17 = .ok (.aload_n 3, 1) := by decide +kernel
theorem d_9_18 : decode c_9 18 = .ok (.iload_n 2, 1) := by decide +kernel
theorem d_9_19 : decode c_9 19 = .ok (.invokevirtual 75, 3) := by decide +kernel
theorem d_9_22 : decode c_9 22 = .ok (.ireturn, 1) := by decide +kernel
set_option maxRecDepth 4000 in
theorem b_9_0 {mc ms : Nat} {X : Option (Nat × (Nat → Int32))} {T : aj_Tt} {Q : aj_Q} {J : aj_J} (hJ : aj_Cl 0 c_9 (some .int) false mc ms X T Q J) {o0 : Nat} {x1 : Int32} {x2 : Int32} {q0 : Nat} {Z : aj_Z} {I : aj_I} {G : aj_G} {C : Nat × Nat} (k0 : Z.2.1 o0 = some (.inl 0)) (r0 : Z.2.2 o0 0 = .ref q0) (k1 : Z.2.1 q0 = some (.inl 6)) (h0 : T 0 0 112 [.ref q0, .int x1] Z I G (fun r Z1 I1 G1 => J 8 [some (.ref o0), some (.int x1), some (.int x2), none] (r.toList ++ []) Z1 I1 G1 C)) : J 0 [some (.ref o0), some (.int x1), some (.int x2), none] [] Z I G C := by
  refine s_aload_n hJ d_9_0 rfl ?_
  refine s_getr hJ lf_0_10 rfl d_9_1 k0 r0 ?_
  refine s_iload_n hJ d_9_4 rfl ?_
  exact s_V1 hJ lm_0_45 d_9_5 (Nat.le_of_ble_eq_true rfl) k1 (h0)
set_option maxRecDepth 4000 in
theorem b_9_8 {mc ms : Nat} {X : Option (Nat × (Nat → Int32))} {T : aj_Tt} {Q : aj_Q} {J : aj_J} (hJ : aj_Cl 0 c_9 (some .int) false mc ms X T Q J) {w0 : Option Value} {w1 : Option Value} {x2 : Int32} {w3 : Option Value} {s0 : Nat} {Z : aj_Z} {I : aj_I} {G : aj_G} {C : Nat × Nat} (k0 : Z.2.1 s0 = some (.inl 8)) (h0 : T 0 0 133 [.ref s0, .int x2] Z I G (fun r Z1 I1 G1 => J 22 [w0, w1, some (.int x2), some (.ref s0)] (r.toList ++ []) Z1 I1 G1 C)) : J 8 [w0, w1, some (.int x2), w3] [.ref s0] Z I G C := by
  refine s_astore_n hJ d_9_8 (Nat.le_of_ble_eq_true rfl) ?_
  refine s_aload_n hJ d_9_9 rfl ?_
  refine s_ifnonnull (tgt := 17) hJ d_9_10 rfl ?_
  refine s_aload_n hJ d_9_17 rfl ?_
  refine s_iload_n hJ d_9_18 rfl ?_
  exact s_V1 hJ lm_0_75 d_9_19 (Nat.le_of_ble_eq_true rfl) k0 (h0)
set_option maxRecDepth 4000 in
theorem b_9_8N {mc ms : Nat} {X : Option (Nat × (Nat → Int32))} {T : aj_Tt} {Q : aj_Q} {J : aj_J} (hJ : aj_Cl 0 c_9 (some .int) false mc ms X T Q J) {w0 : Option Value} {w1 : Option Value} {x2 : Int32} {w3 : Option Value} {Z : aj_Z} {I : aj_I} {G : aj_G} {C : Nat × Nat} (h0 : J 22 [w0, w1, some (.int x2), some (.null)] [.int (-1)] Z I G C) : J 8 [w0, w1, some (.int x2), w3] [.null] Z I G C := by
  refine s_astore_nN hJ d_9_8 (Nat.le_of_ble_eq_true rfl) ?_
  refine s_aload_nN hJ d_9_9 rfl ?_
  refine s_ifnonnullN hJ d_9_10 ?_
  refine s_iconst_m1 hJ d_9_13 ?_
  refine s_goto (tgt := 22) hJ d_9_14 rfl ?_
  exact h0
set_option maxRecDepth 4000 in
theorem b_9_22 {mc ms : Nat} {X : Option (Nat × (Nat → Int32))} {T : aj_Tt} {Q : aj_Q} {J : aj_J} (hJ : aj_Cl 0 c_9 (some .int) false mc ms X T Q J) {w0 : Option Value} {w1 : Option Value} {w2 : Option Value} {w3 : Option Value} {s0 : Int32} {Z : aj_Z} {I : aj_I} {G : aj_G} {C : Nat × Nat} (h0 : Q (some (.int s0)) Z I G) : J 22 [w0, w1, w2, w3] [.int s0] Z I G C := by
  exact s_iret hJ d_9_22 rfl rfl (h0)
-- ReelOfBoxes.time(II)J : method 10
theorem d_10_0 : decode c_10 0 = .ok (.aload_n 0, 1) := by decide +kernel
theorem d_10_1 : decode c_10 1 = .ok (.getfield 10, 3) := by decide +kernel
theorem d_10_4 : decode c_10 4 = .ok (.iload_n 1, 1) := by decide +kernel
theorem d_10_5 : decode c_10 5 = .ok (.invokevirtual 45, 3) := by decide +kernel
theorem d_10_8 : decode c_10 8 = .ok (.astore_n 3, 1) := by decide +kernel
theorem d_10_9 : decode c_10 9 = .ok (.aload_n 3, 1) := by decide +kernel
theorem d_10_10 : decode c_10 10 = .ok (.ifnonnull (9), 3) := by decide +kernel
theorem d_10_13 : decode c_10 13 = .ok (.ldc2_w 79, 3) := by decide +kernel
theorem d_10_16 : decode c_10 16 = .ok (.goto (8), 3) := by decide +kernel
theorem d_10_19 : decode c_10 19 = .ok (.aload_n 3, 1) := by decide +kernel
theorem d_10_20 : decode c_10 20 = .ok (.iload_n 2, 1) := by decide +kernel
theorem d_10_21 : decode c_10 21 = .ok (.invokevirtual 81, 3) := by decide +kernel
theorem d_10_24 : decode c_10 24 = .ok (.lreturn, 1) := by decide +kernel
set_option maxRecDepth 4000 in
theorem b_10_0 {mc ms : Nat} {X : Option (Nat × (Nat → Int32))} {T : aj_Tt} {Q : aj_Q} {J : aj_J} (hJ : aj_Cl 0 c_10 (some .long) false mc ms X T Q J) {o0 : Nat} {x1 : Int32} {x2 : Int32} {q0 : Nat} {Z : aj_Z} {I : aj_I} {G : aj_G} {C : Nat × Nat} (k0 : Z.2.1 o0 = some (.inl 0)) (r0 : Z.2.2 o0 0 = .ref q0) (k1 : Z.2.1 q0 = some (.inl 6)) (h0 : T 0 0 112 [.ref q0, .int x1] Z I G (fun r Z1 I1 G1 => J 8 [some (.ref o0), some (.int x1), some (.int x2), none] (r.toList ++ []) Z1 I1 G1 C)) : J 0 [some (.ref o0), some (.int x1), some (.int x2), none] [] Z I G C := by
  refine s_aload_n hJ d_10_0 rfl ?_
  refine s_getr hJ lf_0_10 rfl d_10_1 k0 r0 ?_
  refine s_iload_n hJ d_10_4 rfl ?_
  exact s_V1 hJ lm_0_45 d_10_5 (Nat.le_of_ble_eq_true rfl) k1 (h0)
set_option maxRecDepth 4000 in
theorem b_10_8 {mc ms : Nat} {X : Option (Nat × (Nat → Int32))} {T : aj_Tt} {Q : aj_Q} {J : aj_J} (hJ : aj_Cl 0 c_10 (some .long) false mc ms X T Q J) {w0 : Option Value} {w1 : Option Value} {x2 : Int32} {w3 : Option Value} {s0 : Nat} {Z : aj_Z} {I : aj_I} {G : aj_G} {C : Nat × Nat} (k0 : Z.2.1 s0 = some (.inl 8)) (h0 : T 0 0 136 [.ref s0, .int x2] Z I G (fun r Z1 I1 G1 => J 24 [w0, w1, some (.int x2), some (.ref s0)] (r.toList ++ []) Z1 I1 G1 C)) : J 8 [w0, w1, some (.int x2), w3] [.ref s0] Z I G C := by
  refine s_astore_n hJ d_10_8 (Nat.le_of_ble_eq_true rfl) ?_
  refine s_aload_n hJ d_10_9 rfl ?_
  refine s_ifnonnull (tgt := 19) hJ d_10_10 rfl ?_
  refine s_aload_n hJ d_10_19 rfl ?_
  refine s_iload_n hJ d_10_20 rfl ?_
  exact s_V1 hJ lm_0_81 d_10_21 (Nat.le_of_ble_eq_true rfl) k0 (h0)
set_option maxRecDepth 4000 in
theorem b_10_8N {mc ms : Nat} {X : Option (Nat × (Nat → Int32))} {T : aj_Tt} {Q : aj_Q} {J : aj_J} (hJ : aj_Cl 0 c_10 (some .long) false mc ms X T Q J) {w0 : Option Value} {w1 : Option Value} {x2 : Int32} {w3 : Option Value} {Z : aj_Z} {I : aj_I} {G : aj_G} {C : Nat × Nat} (h0 : J 24 [w0, w1, some (.int x2), some (.null)] [.long (-1)] Z I G C) : J 8 [w0, w1, some (.int x2), w3] [.null] Z I G C := by
  refine s_astore_nN hJ d_10_8 (Nat.le_of_ble_eq_true rfl) ?_
  refine s_aload_nN hJ d_10_9 rfl ?_
  refine s_ifnonnullN hJ d_10_10 ?_
  refine s_ldc2 hJ ll_0_79 d_10_13 ?_
  refine s_goto (tgt := 24) hJ d_10_16 rfl ?_
  exact h0
set_option maxRecDepth 4000 in
theorem b_10_24 {mc ms : Nat} {X : Option (Nat × (Nat → Int32))} {T : aj_Tt} {Q : aj_Q} {J : aj_J} (hJ : aj_Cl 0 c_10 (some .long) false mc ms X T Q J) {w0 : Option Value} {w1 : Option Value} {w2 : Option Value} {w3 : Option Value} {s0 : Int64} {Z : aj_Z} {I : aj_I} {G : aj_G} {C : Nat × Nat} (h0 : Q (some (.long s0)) Z I G) : J 24 [w0, w1, w2, w3] [.long s0] Z I G C := by
  exact s_lret hJ d_10_24 rfl (h0)
-- ReelOfBoxes.bytes(II)J : method 11
theorem d_11_0 : decode c_11 0 = .ok (.aload_n 0, 1) := by decide +kernel
theorem d_11_1 : decode c_11 1 = .ok (.getfield 10, 3) := by decide +kernel
theorem d_11_4 : decode c_11 4 = .ok (.iload_n 1, 1) := by decide +kernel
theorem d_11_5 : decode c_11 5 = .ok (.invokevirtual 45, 3) := by decide +kernel
theorem d_11_8 : decode c_11 8 = .ok (.astore_n 3, 1) := by decide +kernel
theorem d_11_9 : decode c_11 9 = .ok (.aload_n 3, 1) := by decide +kernel
theorem d_11_10 : decode c_11 10 = .ok (.ifnonnull (7), 3) := by decide +kernel
theorem d_11_13 : decode c_11 13 = .ok (.lconst 0, 1) := by decide +kernel
theorem d_11_14 : decode c_11 14 = .ok (.goto (8), 3) := by decide +kernel
theorem d_11_17 : decode c_11 17 = .ok (.aload_n 3, 1) := by decide +kernel
theorem d_11_18 : decode c_11 18 = .ok (.iload_n 2, 1) := by decide +kernel
theorem d_11_19 : decode c_11 19 = .ok (.invokevirtual 85, 3) := by decide +kernel
theorem d_11_22 : decode c_11 22 = .ok (.lreturn, 1) := by decide +kernel
set_option maxRecDepth 4000 in
theorem b_11_0 {mc ms : Nat} {X : Option (Nat × (Nat → Int32))} {T : aj_Tt} {Q : aj_Q} {J : aj_J} (hJ : aj_Cl 0 c_11 (some .long) false mc ms X T Q J) {o0 : Nat} {x1 : Int32} {x2 : Int32} {q0 : Nat} {Z : aj_Z} {I : aj_I} {G : aj_G} {C : Nat × Nat} (k0 : Z.2.1 o0 = some (.inl 0)) (r0 : Z.2.2 o0 0 = .ref q0) (k1 : Z.2.1 q0 = some (.inl 6)) (h0 : T 0 0 112 [.ref q0, .int x1] Z I G (fun r Z1 I1 G1 => J 8 [some (.ref o0), some (.int x1), some (.int x2), none] (r.toList ++ []) Z1 I1 G1 C)) : J 0 [some (.ref o0), some (.int x1), some (.int x2), none] [] Z I G C := by
  refine s_aload_n hJ d_11_0 rfl ?_
  refine s_getr hJ lf_0_10 rfl d_11_1 k0 r0 ?_
  refine s_iload_n hJ d_11_4 rfl ?_
  exact s_V1 hJ lm_0_45 d_11_5 (Nat.le_of_ble_eq_true rfl) k1 (h0)
set_option maxRecDepth 4000 in
theorem b_11_8 {mc ms : Nat} {X : Option (Nat × (Nat → Int32))} {T : aj_Tt} {Q : aj_Q} {J : aj_J} (hJ : aj_Cl 0 c_11 (some .long) false mc ms X T Q J) {w0 : Option Value} {w1 : Option Value} {x2 : Int32} {w3 : Option Value} {s0 : Nat} {Z : aj_Z} {I : aj_I} {G : aj_G} {C : Nat × Nat} (k0 : Z.2.1 s0 = some (.inl 8)) (h0 : T 0 0 135 [.ref s0, .int x2] Z I G (fun r Z1 I1 G1 => J 22 [w0, w1, some (.int x2), some (.ref s0)] (r.toList ++ []) Z1 I1 G1 C)) : J 8 [w0, w1, some (.int x2), w3] [.ref s0] Z I G C := by
  refine s_astore_n hJ d_11_8 (Nat.le_of_ble_eq_true rfl) ?_
  refine s_aload_n hJ d_11_9 rfl ?_
  refine s_ifnonnull (tgt := 17) hJ d_11_10 rfl ?_
  refine s_aload_n hJ d_11_17 rfl ?_
  refine s_iload_n hJ d_11_18 rfl ?_
  exact s_V1 hJ lm_0_85 d_11_19 (Nat.le_of_ble_eq_true rfl) k0 (h0)
set_option maxRecDepth 4000 in
theorem b_11_8N {mc ms : Nat} {X : Option (Nat × (Nat → Int32))} {T : aj_Tt} {Q : aj_Q} {J : aj_J} (hJ : aj_Cl 0 c_11 (some .long) false mc ms X T Q J) {w0 : Option Value} {w1 : Option Value} {x2 : Int32} {w3 : Option Value} {Z : aj_Z} {I : aj_I} {G : aj_G} {C : Nat × Nat} (h0 : J 22 [w0, w1, some (.int x2), some (.null)] [.long 0] Z I G C) : J 8 [w0, w1, some (.int x2), w3] [.null] Z I G C := by
  refine s_astore_nN hJ d_11_8 (Nat.le_of_ble_eq_true rfl) ?_
  refine s_aload_nN hJ d_11_9 rfl ?_
  refine s_ifnonnullN hJ d_11_10 ?_
  refine s_lconst_0 hJ d_11_13 ?_
  refine s_goto (tgt := 22) hJ d_11_14 rfl ?_
  exact h0
set_option maxRecDepth 4000 in
theorem b_11_22 {mc ms : Nat} {X : Option (Nat × (Nat → Int32))} {T : aj_Tt} {Q : aj_Q} {J : aj_J} (hJ : aj_Cl 0 c_11 (some .long) false mc ms X T Q J) {w0 : Option Value} {w1 : Option Value} {w2 : Option Value} {w3 : Option Value} {s0 : Int64} {Z : aj_Z} {I : aj_I} {G : aj_G} {C : Nat × Nat} (h0 : Q (some (.long s0)) Z I G) : J 22 [w0, w1, w2, w3] [.long s0] Z I G C := by
  exact s_lret hJ d_11_22 rfl (h0)
-- ReelOfBoxes.length()I : method 12
theorem d_12_0 : decode c_12 0 = .ok (.aload_n 0, 1) := by decide +kernel
theorem d_12_1 : decode c_12 1 = .ok (.getfield 19, 3) := by decide +kernel
theorem d_12_4 : decode c_12 4 = .ok (.invokevirtual 88, 3) := by decide +kernel
theorem d_12_7 : decode c_12 7 = .ok (.ireturn, 1) := by decide +kernel
set_option maxRecDepth 4000 in
theorem b_12_0 {mc ms : Nat} {X : Option (Nat × (Nat → Int32))} {T : aj_Tt} {Q : aj_Q} {J : aj_J} (hJ : aj_Cl 0 c_12 (some .int) false mc ms X T Q J) {o0 : Nat} {q0 : Nat} {Z : aj_Z} {I : aj_I} {G : aj_G} {C : Nat × Nat} (k0 : Z.2.1 o0 = some (.inl 0)) (r0 : Z.2.2 o0 1 = .ref q0) (k1 : Z.2.1 q0 = some (.inl 2)) (h0 : T 0 0 81 [.ref q0] Z I G (fun r Z1 I1 G1 => J 7 [some (.ref o0)] (r.toList ++ []) Z1 I1 G1 C)) : J 0 [some (.ref o0)] [] Z I G C := by
  refine s_aload_n hJ d_12_0 rfl ?_
  refine s_getr hJ lf_0_19 rfl d_12_1 k0 r0 ?_
  exact s_V0 hJ lm_0_88 d_12_4 (Nat.le_of_ble_eq_true rfl) k1 (h0)
set_option maxRecDepth 4000 in
theorem b_12_7 {mc ms : Nat} {X : Option (Nat × (Nat → Int32))} {T : aj_Tt} {Q : aj_Q} {J : aj_J} (hJ : aj_Cl 0 c_12 (some .int) false mc ms X T Q J) {w0 : Option Value} {s0 : Int32} {Z : aj_Z} {I : aj_I} {G : aj_G} {C : Nat × Nat} (h0 : Q (some (.int s0)) Z I G) : J 7 [w0] [.int s0] Z I G C := by
  exact s_iret hJ d_12_7 rfl rfl (h0)
-- ReelOfBoxes.at(I)I : method 13
theorem d_13_0 : decode c_13 0 = .ok (.aload_n 0, 1) := by decide +kernel
theorem d_13_1 : decode c_13 1 = .ok (.getfield 19, 3) := by decide +kernel
theorem d_13_4 : decode c_13 4 = .ok (.iload_n 1, 1) := by decide +kernel
theorem d_13_5 : decode c_13 5 = .ok (.invokevirtual 91, 3) := by decide +kernel
theorem d_13_8 : decode c_13 8 = .ok (.ireturn, 1) := by decide +kernel
set_option maxRecDepth 4000 in
theorem b_13_0 {mc ms : Nat} {X : Option (Nat × (Nat → Int32))} {T : aj_Tt} {Q : aj_Q} {J : aj_J} (hJ : aj_Cl 0 c_13 (some .int) false mc ms X T Q J) {o0 : Nat} {x1 : Int32} {q0 : Nat} {Z : aj_Z} {I : aj_I} {G : aj_G} {C : Nat × Nat} (k0 : Z.2.1 o0 = some (.inl 0)) (r0 : Z.2.2 o0 1 = .ref q0) (k1 : Z.2.1 q0 = some (.inl 2)) (h0 : T 0 0 82 [.ref q0, .int x1] Z I G (fun r Z1 I1 G1 => J 8 [some (.ref o0), some (.int x1)] (r.toList ++ []) Z1 I1 G1 C)) : J 0 [some (.ref o0), some (.int x1)] [] Z I G C := by
  refine s_aload_n hJ d_13_0 rfl ?_
  refine s_getr hJ lf_0_19 rfl d_13_1 k0 r0 ?_
  refine s_iload_n hJ d_13_4 rfl ?_
  exact s_V1 hJ lm_0_91 d_13_5 (Nat.le_of_ble_eq_true rfl) k1 (h0)
set_option maxRecDepth 4000 in
theorem b_13_8 {mc ms : Nat} {X : Option (Nat × (Nat → Int32))} {T : aj_Tt} {Q : aj_Q} {J : aj_J} (hJ : aj_Cl 0 c_13 (some .int) false mc ms X T Q J) {w0 : Option Value} {w1 : Option Value} {s0 : Int32} {Z : aj_Z} {I : aj_I} {G : aj_G} {C : Nat × Nat} (h0 : Q (some (.int s0)) Z I G) : J 8 [w0, w1] [.int s0] Z I G C := by
  exact s_iret hJ d_13_8 rfl rfl (h0)
-- ReelOfBoxes.poke(II)Z : method 14
theorem d_14_0 : decode c_14 0 = .ok (.aload_n 0, 1) := by decide +kernel
theorem d_14_1 : decode c_14 1 = .ok (.getfield 19, 3) := by decide +kernel
theorem d_14_4 : decode c_14 4 = .ok (.iload_n 1, 1) := by decide +kernel
theorem d_14_5 : decode c_14 5 = .ok (.iload_n 2, 1) := by decide +kernel
theorem d_14_6 : decode c_14 6 = .ok (.invokevirtual 94, 3) := by decide +kernel
theorem d_14_9 : decode c_14 9 = .ok (.ireturn, 1) := by decide +kernel
set_option maxRecDepth 4000 in
theorem b_14_0 {mc ms : Nat} {X : Option (Nat × (Nat → Int32))} {T : aj_Tt} {Q : aj_Q} {J : aj_J} (hJ : aj_Cl 0 c_14 (some .boolean) false mc ms X T Q J) {o0 : Nat} {x1 : Int32} {x2 : Int32} {q0 : Nat} {Z : aj_Z} {I : aj_I} {G : aj_G} {C : Nat × Nat} (k0 : Z.2.1 o0 = some (.inl 0)) (r0 : Z.2.2 o0 1 = .ref q0) (k1 : Z.2.1 q0 = some (.inl 2)) (h0 : T 0 0 83 [.ref q0, .int x1, .int x2] Z I G (fun r Z1 I1 G1 => J 9 [some (.ref o0), some (.int x1), some (.int x2)] (r.toList ++ []) Z1 I1 G1 C)) : J 0 [some (.ref o0), some (.int x1), some (.int x2)] [] Z I G C := by
  refine s_aload_n hJ d_14_0 rfl ?_
  refine s_getr hJ lf_0_19 rfl d_14_1 k0 r0 ?_
  refine s_iload_n hJ d_14_4 rfl ?_
  refine s_iload_n hJ d_14_5 rfl ?_
  exact s_V2 hJ lm_0_94 d_14_6 (Nat.le_of_ble_eq_true rfl) k1 (h0)
set_option maxRecDepth 4000 in
theorem b_14_9 {mc ms : Nat} {X : Option (Nat × (Nat → Int32))} {T : aj_Tt} {Q : aj_Q} {J : aj_J} (hJ : aj_Cl 0 c_14 (some .boolean) false mc ms X T Q J) {w0 : Option Value} {w1 : Option Value} {w2 : Option Value} {s0 : Int32} {Z : aj_Z} {I : aj_I} {G : aj_G} {C : Nat × Nat} (h0 : narrow .boolean (.int s0) = .int s0) (h1 : Q (some (.int s0)) Z I G) : J 9 [w0, w1, w2] [.int s0] Z I G C := by
  exact s_iret hJ d_14_9 rfl (h0) (h1)
-- ReelOfBoxes.append(JI)I : method 15
theorem d_15_0 : decode c_15 0 = .ok (.aload_n 0, 1) := by decide +kernel
theorem d_15_1 : decode c_15 1 = .ok (.getfield 19, 3) := by decide +kernel
theorem d_15_4 : decode c_15 4 = .ok (.lload_n 1, 1) := by decide +kernel
theorem d_15_5 : decode c_15 5 = .ok (.iload_n 3, 1) := by decide +kernel
theorem d_15_6 : decode c_15 6 = .ok (.invokevirtual 98, 3) := by decide +kernel
theorem d_15_9 : decode c_15 9 = .ok (.ireturn, 1) := by decide +kernel
set_option maxRecDepth 4000 in
theorem b_15_0 {mc ms : Nat} {X : Option (Nat × (Nat → Int32))} {T : aj_Tt} {Q : aj_Q} {J : aj_J} (hJ : aj_Cl 0 c_15 (some .int) false mc ms X T Q J) {o0 : Nat} {x1 : Int64} {x3 : Int32} {q0 : Nat} {Z : aj_Z} {I : aj_I} {G : aj_G} {C : Nat × Nat} (k0 : Z.2.1 o0 = some (.inl 0)) (r0 : Z.2.2 o0 1 = .ref q0) (k1 : Z.2.1 q0 = some (.inl 2)) (h0 : T 0 0 85 [.ref q0, .long x1, .int x3] Z I G (fun r Z1 I1 G1 => J 9 [some (.ref o0), some (.long x1), none, some (.int x3)] (r.toList ++ []) Z1 I1 G1 C)) : J 0 [some (.ref o0), some (.long x1), none, some (.int x3)] [] Z I G C := by
  refine s_aload_n hJ d_15_0 rfl ?_
  refine s_getr hJ lf_0_19 rfl d_15_1 k0 r0 ?_
  refine s_lload_n hJ d_15_4 rfl ?_
  refine s_iload_n hJ d_15_5 rfl ?_
  exact s_V2 hJ lm_0_98 d_15_6 (Nat.le_of_ble_eq_true rfl) k1 (h0)
set_option maxRecDepth 4000 in
theorem b_15_9 {mc ms : Nat} {X : Option (Nat × (Nat → Int32))} {T : aj_Tt} {Q : aj_Q} {J : aj_J} (hJ : aj_Cl 0 c_15 (some .int) false mc ms X T Q J) {w0 : Option Value} {w1 : Option Value} {w2 : Option Value} {w3 : Option Value} {s0 : Int32} {Z : aj_Z} {I : aj_I} {G : aj_G} {C : Nat × Nat} (h0 : Q (some (.int s0)) Z I G) : J 9 [w0, w1, w2, w3] [.int s0] Z I G C := by
  exact s_iret hJ d_15_9 rfl rfl (h0)
-- ReelOfBoxes.cut(I)Z : method 16
theorem d_16_0 : decode c_16 0 = .ok (.aload_n 0, 1) := by decide +kernel
theorem d_16_1 : decode c_16 1 = .ok (.getfield 19, 3) := by decide +kernel
theorem d_16_4 : decode c_16 4 = .ok (.iload_n 1, 1) := by decide +kernel
theorem d_16_5 : decode c_16 5 = .ok (.invokevirtual 102, 3) := by decide +kernel
theorem d_16_8 : decode c_16 8 = .ok (.ireturn, 1) := by decide +kernel
set_option maxRecDepth 4000 in
theorem b_16_0 {mc ms : Nat} {X : Option (Nat × (Nat → Int32))} {T : aj_Tt} {Q : aj_Q} {J : aj_J} (hJ : aj_Cl 0 c_16 (some .boolean) false mc ms X T Q J) {o0 : Nat} {x1 : Int32} {q0 : Nat} {Z : aj_Z} {I : aj_I} {G : aj_G} {C : Nat × Nat} (k0 : Z.2.1 o0 = some (.inl 0)) (r0 : Z.2.2 o0 1 = .ref q0) (k1 : Z.2.1 q0 = some (.inl 2)) (h0 : T 0 0 84 [.ref q0, .int x1] Z I G (fun r Z1 I1 G1 => J 8 [some (.ref o0), some (.int x1)] (r.toList ++ []) Z1 I1 G1 C)) : J 0 [some (.ref o0), some (.int x1)] [] Z I G C := by
  refine s_aload_n hJ d_16_0 rfl ?_
  refine s_getr hJ lf_0_19 rfl d_16_1 k0 r0 ?_
  refine s_iload_n hJ d_16_4 rfl ?_
  exact s_V1 hJ lm_0_102 d_16_5 (Nat.le_of_ble_eq_true rfl) k1 (h0)
set_option maxRecDepth 4000 in
theorem b_16_8 {mc ms : Nat} {X : Option (Nat × (Nat → Int32))} {T : aj_Tt} {Q : aj_Q} {J : aj_J} (hJ : aj_Cl 0 c_16 (some .boolean) false mc ms X T Q J) {w0 : Option Value} {w1 : Option Value} {s0 : Int32} {Z : aj_Z} {I : aj_I} {G : aj_G} {C : Nat × Nat} (h0 : narrow .boolean (.int s0) = .int s0) (h1 : Q (some (.int s0)) Z I G) : J 8 [w0, w1] [.int s0] Z I G C := by
  exact s_iret hJ d_16_8 rfl (h0) (h1)
-- ReelOfBoxes.isTooMuch(J)Z : method 17
theorem d_17_0 : decode c_17 0 = .ok (.lload_n 0, 1) := by decide +kernel
theorem d_17_1 : decode c_17 1 = .ok (.lconst 0, 1) := by decide +kernel
theorem d_17_2 : decode c_17 2 = .ok (.lcmp, 1) := by decide +kernel
theorem d_17_3 : decode c_17 3 = .ok (.ifCond .lt (11), 3) := by decide +kernel
theorem d_17_6 : decode c_17 6 = .ok (.lload_n 0, 1) := by decide +kernel
theorem d_17_7 : decode c_17 7 = .ok (.ldc2_w 106, 3) := by decide +kernel
theorem d_17_10 : decode c_17 10 = .ok (.lcmp, 1) := by decide +kernel
theorem d_17_11 : decode c_17 11 = .ok (.ifCond .le (7), 3) := by decide +kernel
theorem d_17_14 : decode c_17 14 = .ok (.iconst (1), 1) := by decide +kernel
theorem d_17_15 : decode c_17 15 = .ok (.goto (4), 3) := by decide +kernel
theorem d_17_18 : decode c_17 18 = .ok (.iconst (0), 1) := by decide +kernel
theorem d_17_19 : decode c_17 19 = .ok (.ireturn, 1) := by decide +kernel
set_option maxRecDepth 4000 in
theorem b_17_0 {mc ms : Nat} {X : Option (Nat × (Nat → Int32))} {T : aj_Tt} {Q : aj_Q} {J : aj_J} (hJ : aj_Cl 0 c_17 (some .boolean) false mc ms X T Q J) {x0 : Int64} {Z : aj_Z} {I : aj_I} {G : aj_G} {C : Nat × Nat} (h0 : x0 < 0 → Q (some (.int 1)) Z I G) (h1 : ¬ x0 < 0 → x0 ≤ 2147483647 → Q (some (.int 0)) Z I G) (h2 : ¬ x0 < 0 → ¬ x0 ≤ 2147483647 → Q (some (.int 1)) Z I G) : J 0 [some (.long x0), none] [] Z I G C := by
  refine s_lload_n hJ d_17_0 rfl ?_
  refine s_lconst_0 hJ d_17_1 ?_
  refine s_lif_lt (tgt := 14) hJ d_17_2 d_17_3 rfl (fun c0 => ?_) (fun c0 => ?_)
  · skip
    refine s_iconst_1 hJ d_17_14 ?_
    refine s_goto (tgt := 19) hJ d_17_15 rfl ?_
    exact s_iret hJ d_17_19 rfl rfl (h0 c0)
  · skip
    refine s_lload_n hJ d_17_6 rfl ?_
    refine s_ldc2 hJ ll_0_106 d_17_7 ?_
    refine s_lif_le (tgt := 18) hJ d_17_10 d_17_11 rfl (fun c1 => ?_) (fun c1 => ?_)
    · skip
      refine s_iconst_0 hJ d_17_18 ?_
      exact s_iret hJ d_17_19 rfl rfl (h1 c0 c1)
    · skip
      refine s_iconst_1 hJ d_17_14 ?_
      refine s_goto (tgt := 19) hJ d_17_15 rfl ?_
      exact s_iret hJ d_17_19 rfl rfl (h2 c0 c1)
