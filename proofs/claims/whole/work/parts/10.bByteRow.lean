/-! decode rows and block rows, by a program -/
-- ReelOfBoxes$ByteRow.<init>()V : method 80
theorem d_80_0 : decode c_80 0 = .ok (.aload_n 0, 1) := by decide +kernel
theorem d_80_1 : decode c_80 1 = .ok (.invokespecial 3, 3) := by decide +kernel
theorem d_80_4 : decode c_80 4 = .ok (.aload_n 0, 1) := by decide +kernel
theorem d_80_5 : decode c_80 5 = .ok (.sipush (1200), 3) := by decide +kernel
theorem d_80_8 : decode c_80 8 = .ok (.newarray .byte, 2) := by decide +kernel
theorem d_80_10 : decode c_80 10 = .ok (.putfield 9, 3) := by decide +kernel
theorem d_80_13 : decode c_80 13 = .ok (.aload_n 0, 1) := by decide +kernel
theorem d_80_14 : decode c_80 14 = .ok (.iconst (0), 1) := by decide +kernel
theorem d_80_15 : decode c_80 15 = .ok (.putfield 15, 3) := by decide +kernel
theorem d_80_18 : decode c_80 18 = .ok (.return_, 1) := by decide +kernel
-- ReelOfBoxes$ByteRow.byteCount()I : method 81
theorem d_81_0 : decode c_81 0 = .ok (.aload_n 0, 1) := by decide +kernel
theorem d_81_1 : decode c_81 1 = .ok (.getfield 15, 3) := by decide +kernel
theorem d_81_4 : decode c_81 4 = .ok (.ireturn, 1) := by decide +kernel
set_option maxRecDepth 4000 in
theorem b_81_0 {mc ms : Nat} {X : Option (Nat × (Nat → Int32))} {T : aj_Tt} {Q : aj_Q} {J : aj_J} (hJ : aj_Cl 2 c_81 (some .int) false mc ms X T Q J) {o0 : Nat} {Z : aj_Z} {I : aj_I} {G : aj_G} {C : Nat × Nat} (k0 : Z.2.1 o0 = some (.inl 2)) (h0 : Q (some (.int (I o0 1))) Z I G) : J 0 [some (.ref o0)] [] Z I G C := by
  refine s_aload_n hJ d_81_0 rfl ?_
  refine s_geti hJ lf_2_15 rfl d_81_1 k0 ?_
  exact s_iret hJ d_81_4 rfl rfl (h0)
-- ReelOfBoxes$ByteRow.byteAt(I)I : method 82
theorem d_82_0 : decode c_82 0 = .ok (.iload_n 1, 1) := by decide +kernel
theorem d_82_1 : decode c_82 1 = .ok (.ifCond .lt (24), 3) := by decide +kernel
theorem d_82_4 : decode c_82 4 = .ok (.iload_n 1, 1) := by decide +kernel
theorem d_82_5 : decode c_82 5 = .ok (.aload_n 0, 1) := by decide +kernel
theorem d_82_6 : decode c_82 6 = .ok (.getfield 15, 3) := by decide +kernel
theorem d_82_9 : decode c_82 9 = .ok (.if_icmp .ge (16), 3) := by decide +kernel
theorem d_82_12 : decode c_82 12 = .ok (.aload_n 0, 1) := by decide +kernel
theorem d_82_13 : decode c_82 13 = .ok (.getfield 9, 3) := by decide +kernel
theorem d_82_16 : decode c_82 16 = .ok (.iload_n 1, 1) := by decide +kernel
theorem d_82_17 : decode c_82 17 = .ok (.baload, 1) := by decide +kernel
theorem d_82_18 : decode c_82 18 = .ok (.sipush (255), 3) := by decide +kernel
theorem d_82_21 : decode c_82 21 = .ok (.iand, 1) := by decide +kernel
theorem d_82_22 : decode c_82 22 = .ok (.goto (4), 3) := by decide +kernel
theorem d_82_25 : decode c_82 25 = .ok (.iconst (-1), 1) := by decide +kernel
theorem d_82_26 : decode c_82 26 = .ok (.ireturn, 1) := by decide +kernel
set_option maxRecDepth 4000 in
theorem b_82_0 {mc ms : Nat} {X : Option (Nat × (Nat → Int32))} {T : aj_Tt} {Q : aj_Q} {J : aj_J} (hJ : aj_Cl 2 c_82 (some .int) false mc ms X T Q J) {o0 : Nat} {x1 : Int32} {q0 : Nat} {nk1 : Nat} {Z : aj_Z} {I : aj_I} {G : aj_G} {C : Nat × Nat} (h0 : x1 < 0 → Q (some (.int (-1))) Z I G) (k0 : Z.2.1 o0 = some (.inl 2)) (h1 : ¬ x1 < 0 → (I o0 1) ≤ x1 → Q (some (.int (-1))) Z I G) (r0 : Z.2.2 o0 0 = .ref q0) (k1 : Z.2.1 q0 = some (.inr (2, nk1))) (h2 : ¬ x1 < 0 → ¬ (I o0 1) ≤ x1 → vp_in x1 nk1) (h3 : ¬ x1 < 0 → ¬ (I o0 1) ≤ x1 → Q (some (.int ((I q0 (Int32.toNatClampNeg x1)) &&& 255))) Z I G) : J 0 [some (.ref o0), some (.int x1)] [] Z I G C := by
  refine s_iload_n hJ d_82_0 rfl ?_
  refine s_if_lt (tgt := 25) hJ d_82_1 rfl (fun c0 => ?_) (fun c0 => ?_)
  · skip
    refine s_iconst_m1 hJ d_82_25 ?_
    exact s_iret hJ d_82_26 rfl rfl (h0 c0)
  · skip
    refine s_iload_n hJ d_82_4 rfl ?_
    refine s_aload_n hJ d_82_5 rfl ?_
    refine s_geti hJ lf_2_15 rfl d_82_6 k0 ?_
    refine s_icmp_ge (tgt := 25) hJ d_82_9 rfl (fun c1 => ?_) (fun c1 => ?_)
    · skip
      refine s_iconst_m1 hJ d_82_25 ?_
      exact s_iret hJ d_82_26 rfl rfl (h1 c0 c1)
    · skip
      refine s_aload_n hJ d_82_12 rfl ?_
      refine s_getr hJ lf_2_9 rfl d_82_13 k0 r0 ?_
      refine s_iload_n hJ d_82_16 rfl ?_
      refine s_bald hJ d_82_17 k1 (h2 c0 c1) ?_
      refine s_sipush (v := 255) hJ d_82_18 (by decide) ?_
      refine s_iand hJ d_82_21 ?_
      refine s_goto (tgt := 26) hJ d_82_22 rfl ?_
      exact s_iret hJ d_82_26 rfl rfl (h3 c0 c1)
-- ReelOfBoxes$ByteRow.setByte(II)Z : method 83
theorem d_83_0 : decode c_83 0 = .ok (.iload_n 1, 1) := by decide +kernel
theorem d_83_1 : decode c_83 1 = .ok (.ifCond .lt (11), 3) := by decide +kernel
theorem d_83_4 : decode c_83 4 = .ok (.iload_n 1, 1) := by decide +kernel
theorem d_83_5 : decode c_83 5 = .ok (.aload_n 0, 1) := by decide +kernel
theorem d_83_6 : decode c_83 6 = .ok (.getfield 15, 3) := by decide +kernel
theorem d_83_9 : decode c_83 9 = .ok (.if_icmp .lt (5), 3) := by decide +kernel
theorem d_83_12 : decode c_83 12 = .ok (.iconst (0), 1) := by decide +kernel
theorem d_83_13 : decode c_83 13 = .ok (.ireturn, 1) := by decide +kernel
theorem d_83_14 : decode c_83 14 = .ok (.aload_n 0, 1) := by decide +kernel
theorem d_83_15 : decode c_83 15 = .ok (.getfield 9, 3) := by decide +kernel
theorem d_83_18 : decode c_83 18 = .ok (.iload_n 1, 1) := by decide +kernel
theorem d_83_19 : decode c_83 19 = .ok (.iload_n 2, 1) := by decide +kernel
theorem d_83_20 : decode c_83 20 = .ok (.i2b, 1) := by decide +kernel
theorem d_83_21 : decode c_83 21 = .ok (.bastore, 1) := by decide +kernel
theorem d_83_22 : decode c_83 22 = .ok (.iconst (1), 1) := by decide +kernel
theorem d_83_23 : decode c_83 23 = .ok (.ireturn, 1) := by decide +kernel
set_option maxRecDepth 4000 in
theorem b_83_0 {mc ms : Nat} {X : Option (Nat × (Nat → Int32))} {T : aj_Tt} {Q : aj_Q} {J : aj_J} (hJ : aj_Cl 2 c_83 (some .boolean) false mc ms X T Q J) {o0 : Nat} {x1 : Int32} {x2 : Int32} {q0 : Nat} {nk1 : Nat} {Z : aj_Z} {I : aj_I} {G : aj_G} {C : Nat × Nat} (h0 : x1 < 0 → Q (some (.int 0)) Z I G) (k0 : Z.2.1 o0 = some (.inl 2)) (r0 : Z.2.2 o0 0 = .ref q0) (k1 : Z.2.1 q0 = some (.inr (2, nk1))) (h1 : ¬ x1 < 0 → x1 < (I o0 1) → vp_in x1 nk1) (h2 : ¬ x1 < 0 → x1 < (I o0 1) → Q (some (.int 1)) Z (aj_u2 I q0 (Int32.toNatClampNeg x1) (Int32.toInt8 (Int32.toInt8 x2).toInt32).toInt32) G) (h3 : ¬ x1 < 0 → ¬ x1 < (I o0 1) → Q (some (.int 0)) Z I G) : J 0 [some (.ref o0), some (.int x1), some (.int x2)] [] Z I G C := by
  refine s_iload_n hJ d_83_0 rfl ?_
  refine s_if_lt (tgt := 12) hJ d_83_1 rfl (fun c0 => ?_) (fun c0 => ?_)
  · skip
    refine s_iconst_0 hJ d_83_12 ?_
    exact s_iret hJ d_83_13 rfl rfl (h0 c0)
  · skip
    refine s_iload_n hJ d_83_4 rfl ?_
    refine s_aload_n hJ d_83_5 rfl ?_
    refine s_geti hJ lf_2_15 rfl d_83_6 k0 ?_
    refine s_icmp_lt (tgt := 14) hJ d_83_9 rfl (fun c1 => ?_) (fun c1 => ?_)
    · skip
      refine s_aload_n hJ d_83_14 rfl ?_
      refine s_getr hJ lf_2_9 rfl d_83_15 k0 r0 ?_
      refine s_iload_n hJ d_83_18 rfl ?_
      refine s_iload_n hJ d_83_19 rfl ?_
      refine s_i2b hJ d_83_20 ?_
      refine s_bast hJ d_83_21 k1 (h1 c0 c1) ?_
      refine s_iconst_1 hJ d_83_22 ?_
      exact s_iret hJ d_83_23 rfl rfl (h2 c0 c1)
    · skip
      refine s_iconst_0 hJ d_83_12 ?_
      exact s_iret hJ d_83_13 rfl rfl (h3 c0 c1)
-- ReelOfBoxes$ByteRow.keepFirst(I)Z : method 84
theorem d_84_0 : decode c_84 0 = .ok (.iload_n 1, 1) := by decide +kernel
theorem d_84_1 : decode c_84 1 = .ok (.ifCond .lt (11), 3) := by decide +kernel
theorem d_84_4 : decode c_84 4 = .ok (.iload_n 1, 1) := by decide +kernel
theorem d_84_5 : decode c_84 5 = .ok (.aload_n 0, 1) := by decide +kernel
theorem d_84_6 : decode c_84 6 = .ok (.getfield 15, 3) := by decide +kernel
theorem d_84_9 : decode c_84 9 = .ok (.if_icmp .le (5), 3) := by decide +kernel
theorem d_84_12 : decode c_84 12 = .ok (.iconst (0), 1) := by decide +kernel
theorem d_84_13 : decode c_84 13 = .ok (.ireturn, 1) := by decide +kernel
theorem d_84_14 : decode c_84 14 = .ok (.aload_n 0, 1) := by decide +kernel
theorem d_84_15 : decode c_84 15 = .ok (.iload_n 1, 1) := by decide +kernel
theorem d_84_16 : decode c_84 16 = .ok (.putfield 15, 3) := by decide +kernel
theorem d_84_19 : decode c_84 19 = .ok (.iconst (1), 1) := by decide +kernel
theorem d_84_20 : decode c_84 20 = .ok (.ireturn, 1) := by decide +kernel
set_option maxRecDepth 4000 in
theorem b_84_0 {mc ms : Nat} {X : Option (Nat × (Nat → Int32))} {T : aj_Tt} {Q : aj_Q} {J : aj_J} (hJ : aj_Cl 2 c_84 (some .boolean) false mc ms X T Q J) {o0 : Nat} {x1 : Int32} {Z : aj_Z} {I : aj_I} {G : aj_G} {C : Nat × Nat} (h0 : x1 < 0 → Q (some (.int 0)) Z I G) (k0 : Z.2.1 o0 = some (.inl 2)) (h1 : ¬ x1 < 0 → x1 ≤ (I o0 1) → Q (some (.int 1)) Z (aj_u2 I o0 1 x1) G) (h2 : ¬ x1 < 0 → ¬ x1 ≤ (I o0 1) → Q (some (.int 0)) Z I G) : J 0 [some (.ref o0), some (.int x1)] [] Z I G C := by
  refine s_iload_n hJ d_84_0 rfl ?_
  refine s_if_lt (tgt := 12) hJ d_84_1 rfl (fun c0 => ?_) (fun c0 => ?_)
  · skip
    refine s_iconst_0 hJ d_84_12 ?_
    exact s_iret hJ d_84_13 rfl rfl (h0 c0)
  · skip
    refine s_iload_n hJ d_84_4 rfl ?_
    refine s_aload_n hJ d_84_5 rfl ?_
    refine s_geti hJ lf_2_15 rfl d_84_6 k0 ?_
    refine s_icmp_le (tgt := 14) hJ d_84_9 rfl (fun c1 => ?_) (fun c1 => ?_)
    · skip
      refine s_aload_n hJ d_84_14 rfl ?_
      refine s_iload_n hJ d_84_15 rfl ?_
      refine s_puti hJ lf_2_15 rfl d_84_16 k0 ?_
      refine s_iconst_1 hJ d_84_19 ?_
      exact s_iret hJ d_84_20 rfl rfl (h1 c0 c1)
    · skip
      refine s_iconst_0 hJ d_84_12 ?_
      exact s_iret hJ d_84_13 rfl rfl (h2 c0 c1)
-- ReelOfBoxes$ByteRow.addNumber(JI)I : method 85
theorem d_85_0 : decode c_85 0 = .ok (.iload_n 3, 1) := by decide +kernel
theorem d_85_1 : decode c_85 1 = .ok (.iconst (1), 1) := by decide +kernel
theorem d_85_2 : decode c_85 2 = .ok (.if_icmp .lt (21), 3) := by decide +kernel
theorem d_85_5 : decode c_85 5 = .ok (.iload_n 3, 1) := by decide +kernel
theorem d_85_6 : decode c_85 6 = .ok (.bipush (8), 2) := by decide +kernel
theorem d_85_8 : decode c_85 8 = .ok (.if_icmp .gt (15), 3) := by decide +kernel
theorem d_85_11 : decode c_85 11 = .ok (.aload_n 0, 1) := by decide +kernel
theorem d_85_12 : decode c_85 12 = .ok (.getfield 15, 3) := by decide +kernel
theorem d_85_15 : decode c_85 15 = .ok (.iload_n 3, 1) := by decide +kernel
theorem d_85_16 : decode c_85 16 = .ok (.iadd, 1) := by decide +kernel
theorem d_85_17 : decode c_85 17 = .ok (.sipush (1200), 3) := by decide +kernel
theorem d_85_20 : decode c_85 20 = .ok (.if_icmp .le (5), 3) := by decide +kernel
theorem d_85_23 : decode c_85 23 = .ok (.iconst (-1), 1) := by decide +kernel
theorem d_85_24 : decode c_85 24 = .ok (.ireturn, 1) := by decide +kernel
theorem d_85_25 : decode c_85 25 = .ok (.iload_n 3, 1) := by decide +kernel
theorem d_85_26 : decode c_85 26 = .ok (.iconst (1), 1) := by decide +kernel
theorem d_85_27 : decode c_85 27 = .ok (.isub, 1) := by decide +kernel
theorem d_85_28 : decode c_85 28 = .ok (.istore 4, 2) := by decide +kernel
theorem d_85_30 : decode c_85 30 = .ok (.iload 4, 2) := by decide +kernel
theorem d_85_32 : decode c_85 32 = .ok (.ifCond .lt (37), 3) := by decide +kernel
theorem d_85_35 : decode c_85 35 = .ok (.aload_n 0, 1) := by decide +kernel
theorem d_85_36 : decode c_85 36 = .ok (.getfield 9, 3) := by decide +kernel
theorem d_85_39 : decode c_85 39 = .ok (.aload_n 0, 1) := by decide +kernel
theorem d_85_40 : decode c_85 40 = .ok (.getfield 15, 3) := by decide +kernel
theorem d_85_43 : decode c_85 43 = .ok (.lload_n 1, 1) := by decide +kernel
theorem d_85_44 : decode c_85 44 = .ok (.bipush (8), 2) := by decide +kernel
theorem d_85_46 : decode c_85 46 = .ok (.iload 4, 2) := by decide +kernel
theorem d_85_48 : decode c_85 48 = .ok (.imul, 1) := by decide +kernel
theorem d_85_49 : decode c_85 49 = .ok (.lushr, 1) := by decide +kernel
theorem d_85_50 : decode c_85 50 = .ok (.l2i, 1) := by decide +kernel
theorem d_85_51 : decode c_85 51 = .ok (.i2b, 1) := by decide +kernel
theorem d_85_52 : decode c_85 52 = .ok (.bastore, 1) := by decide +kernel
theorem d_85_53 : decode c_85 53 = .ok (.aload_n 0, 1) := by decide +kernel
theorem d_85_54 : decode c_85 54 = .ok (.dup, 1) := by decide +kernel
theorem d_85_55 : decode c_85 55 = .ok (.getfield 15, 3) := by decide +kernel
theorem d_85_58 : decode c_85 58 = .ok (.iconst (1), 1) := by decide +kernel
theorem d_85_59 : decode c_85 59 = .ok (.iadd, 1) := by decide +kernel
theorem d_85_60 : decode c_85 60 = .ok (.putfield 15, 3) := by decide +kernel
theorem d_85_63 : decode c_85 63 = .ok (.iinc 4 (-1), 3) := by decide +kernel
theorem d_85_66 : decode c_85 66 = .ok (.goto (-36), 3) := by decide +kernel
theorem d_85_69 : decode c_85 69 = .ok (.aload_n 0, 1) := by decide +kernel
theorem d_85_70 : decode c_85 70 = .ok (.getfield 15, 3) := by decide +kernel
theorem d_85_73 : decode c_85 73 = .ok (.ireturn, 1) := by decide +kernel
set_option maxRecDepth 4000 in
theorem b_85_0 {mc ms : Nat} {X : Option (Nat × (Nat → Int32))} {T : aj_Tt} {Q : aj_Q} {J : aj_J} (hJ : aj_Cl 2 c_85 (some .int) false mc ms X T Q J) {o0 : Nat} {x1 : Int64} {x3 : Int32} {Z : aj_Z} {I : aj_I} {G : aj_G} {C : Nat × Nat} (h0 : x3 < 1 → Q (some (.int (-1))) Z I G) (h1 : ¬ x3 < 1 → 8 < x3 → Q (some (.int (-1))) Z I G) (k0 : Z.2.1 o0 = some (.inl 2)) (h2 : ¬ x3 < 1 → ¬ 8 < x3 → ((I o0 1) + x3) ≤ 1200 → J 30 [some (.ref o0), some (.long x1), none, some (.int x3), some (.int (x3 - 1))] [] Z I G C) (h3 : ¬ x3 < 1 → ¬ 8 < x3 → ¬ ((I o0 1) + x3) ≤ 1200 → Q (some (.int (-1))) Z I G) : J 0 [some (.ref o0), some (.long x1), none, some (.int x3), none] [] Z I G C := by
  refine s_iload_n hJ d_85_0 rfl ?_
  refine s_iconst_1 hJ d_85_1 ?_
  refine s_icmp_lt (tgt := 23) hJ d_85_2 rfl (fun c0 => ?_) (fun c0 => ?_)
  · skip
    refine s_iconst_m1 hJ d_85_23 ?_
    exact s_iret hJ d_85_24 rfl rfl (h0 c0)
  · skip
    refine s_iload_n hJ d_85_5 rfl ?_
    refine s_bipush (v := 8) hJ d_85_6 (by decide) ?_
    refine s_icmp_gt (tgt := 23) hJ d_85_8 rfl (fun c1 => ?_) (fun c1 => ?_)
    · skip
      refine s_iconst_m1 hJ d_85_23 ?_
      exact s_iret hJ d_85_24 rfl rfl (h1 c0 c1)
    · skip
      refine s_aload_n hJ d_85_11 rfl ?_
      refine s_geti hJ lf_2_15 rfl d_85_12 k0 ?_
      refine s_iload_n hJ d_85_15 rfl ?_
      refine s_iadd hJ d_85_16 ?_
      refine s_sipush (v := 1200) hJ d_85_17 (by decide) ?_
      refine s_icmp_le (tgt := 25) hJ d_85_20 rfl (fun c2 => ?_) (fun c2 => ?_)
      · skip
        refine s_iload_n hJ d_85_25 rfl ?_
        refine s_iconst_1 hJ d_85_26 ?_
        refine s_isub hJ d_85_27 ?_
        refine s_istore hJ d_85_28 (Nat.le_of_ble_eq_true rfl) ?_
        exact h2 c0 c1 c2
      · skip
        refine s_iconst_m1 hJ d_85_23 ?_
        exact s_iret hJ d_85_24 rfl rfl (h3 c0 c1 c2)
set_option maxRecDepth 4000 in
theorem b_85_30 {mc ms : Nat} {X : Option (Nat × (Nat → Int32))} {T : aj_Tt} {Q : aj_Q} {J : aj_J} (hJ : aj_Cl 2 c_85 (some .int) false mc ms X T Q J) {o0 : Nat} {x1 : Int64} {w2 : Option Value} {w3 : Option Value} {x4 : Int32} {q0 : Nat} {nk1 : Nat} {Z : aj_Z} {I : aj_I} {G : aj_G} {C : Nat × Nat} (k0 : Z.2.1 o0 = some (.inl 2)) (h0 : x4 < 0 → Q (some (.int (I o0 1))) Z I G) (r0 : Z.2.2 o0 0 = .ref q0) (k1 : Z.2.1 q0 = some (.inr (2, nk1))) (h1 : ¬ x4 < 0 → vp_in (I o0 1) nk1) (h2 : ¬ x4 < 0 → J 30 [some (.ref o0), some (.long x1), w2, (aj_clr w3), some (.int (x4 + (-1)))] [] Z (aj_u2 (aj_u2 I q0 (Int32.toNatClampNeg (I o0 1)) (Int32.toInt8 (Int32.toInt8 (Int64.toInt32 (Int64.toUInt64 x1 >>> ((Int32.toInt64 (8 * x4)).toUInt64 &&& Int64.toUInt64 63)).toInt64)).toInt32).toInt32) o0 1 (((aj_u2 I q0 (Int32.toNatClampNeg (I o0 1)) (Int32.toInt8 (Int32.toInt8 (Int64.toInt32 (Int64.toUInt64 x1 >>> ((Int32.toInt64 (8 * x4)).toUInt64 &&& Int64.toUInt64 63)).toInt64)).toInt32).toInt32) o0 1) + 1)) G C) : J 30 [some (.ref o0), some (.long x1), w2, w3, some (.int x4)] [] Z I G C := by
  refine s_iload hJ d_85_30 rfl ?_
  refine s_if_lt (tgt := 69) hJ d_85_32 rfl (fun c0 => ?_) (fun c0 => ?_)
  · skip
    refine s_aload_n hJ d_85_69 rfl ?_
    refine s_geti hJ lf_2_15 rfl d_85_70 k0 ?_
    exact s_iret hJ d_85_73 rfl rfl (h0 c0)
  · skip
    refine s_aload_n hJ d_85_35 rfl ?_
    refine s_getr hJ lf_2_9 rfl d_85_36 k0 r0 ?_
    refine s_aload_n hJ d_85_39 rfl ?_
    refine s_geti hJ lf_2_15 rfl d_85_40 k0 ?_
    refine s_lload_n hJ d_85_43 rfl ?_
    refine s_bipush (v := 8) hJ d_85_44 (by decide) ?_
    refine s_iload hJ d_85_46 rfl ?_
    refine s_imul hJ d_85_48 ?_
    refine s_lushr hJ d_85_49 ?_
    refine s_l2i hJ d_85_50 ?_
    refine s_i2b hJ d_85_51 ?_
    refine s_bast hJ d_85_52 k1 (h1 c0) ?_
    refine s_aload_n hJ d_85_53 rfl ?_
    refine s_dup hJ d_85_54 rfl ?_
    refine s_geti hJ lf_2_15 rfl d_85_55 k0 ?_
    refine s_iconst_1 hJ d_85_58 ?_
    refine s_iadd hJ d_85_59 ?_
    refine s_puti hJ lf_2_15 rfl d_85_60 k0 ?_
    refine s_iinc (v := (-1)) hJ d_85_63 rfl (by decide) ?_
    refine s_goto (tgt := 30) hJ d_85_66 rfl ?_
    exact h2 c0
-- ReelOfBoxes$ByteRow.number(II)J : method 86
theorem d_86_0 : decode c_86 0 = .ok (.iload_n 1, 1) := by decide +kernel
theorem d_86_1 : decode c_86 1 = .ok (.ifCond .lt (13), 3) := by decide +kernel
theorem d_86_4 : decode c_86 4 = .ok (.iload_n 2, 1) := by decide +kernel
theorem d_86_5 : decode c_86 5 = .ok (.aload_n 0, 1) := by decide +kernel
theorem d_86_6 : decode c_86 6 = .ok (.getfield 15, 3) := by decide +kernel
theorem d_86_9 : decode c_86 9 = .ok (.iload_n 1, 1) := by decide +kernel
theorem d_86_10 : decode c_86 10 = .ok (.isub, 1) := by decide +kernel
theorem d_86_11 : decode c_86 11 = .ok (.if_icmp .le (5), 3) := by decide +kernel
theorem d_86_14 : decode c_86 14 = .ok (.lconst 0, 1) := by decide +kernel
theorem d_86_15 : decode c_86 15 = .ok (.lreturn, 1) := by decide +kernel
theorem d_86_16 : decode c_86 16 = .ok (.lconst 0, 1) := by decide +kernel
theorem d_86_17 : decode c_86 17 = .ok (.lstore_n 3, 1) := by decide +kernel
theorem d_86_18 : decode c_86 18 = .ok (.iconst (0), 1) := by decide +kernel
theorem d_86_19 : decode c_86 19 = .ok (.istore 5, 2) := by decide +kernel
theorem d_86_21 : decode c_86 21 = .ok (.iload 5, 2) := by decide +kernel
theorem d_86_23 : decode c_86 23 = .ok (.iload_n 2, 1) := by decide +kernel
theorem d_86_24 : decode c_86 24 = .ok (.if_icmp .ge (29), 3) := by decide +kernel
theorem d_86_27 : decode c_86 27 = .ok (.lload_n 3, 1) := by decide +kernel
theorem d_86_28 : decode c_86 28 = .ok (.bipush (8), 2) := by decide +kernel
theorem d_86_30 : decode c_86 30 = .ok (.lshl, 1) := by decide +kernel
theorem d_86_31 : decode c_86 31 = .ok (.aload_n 0, 1) := by decide +kernel
theorem d_86_32 : decode c_86 32 = .ok (.getfield 9, 3) := by decide +kernel
theorem d_86_35 : decode c_86 35 = .ok (.iload_n 1, 1) := by decide +kernel
theorem d_86_36 : decode c_86 36 = .ok (.iload 5, 2) := by decide +kernel
theorem d_86_38 : decode c_86 38 = .ok (.iadd, 1) := by decide +kernel
theorem d_86_39 : decode c_86 39 = .ok (.baload, 1) := by decide +kernel
theorem d_86_40 : decode c_86 40 = .ok (.sipush (255), 3) := by decide +kernel
theorem d_86_43 : decode c_86 43 = .ok (.iand, 1) := by decide +kernel
theorem d_86_44 : decode c_86 44 = .ok (.i2l, 1) := by decide +kernel
theorem d_86_45 : decode c_86 45 = .ok (.lor, 1) := by decide +kernel
theorem d_86_46 : decode c_86 46 = .ok (.lstore_n 3, 1) := by decide +kernel
theorem d_86_47 : decode c_86 47 = .ok (.iinc 5 (1), 3) := by decide +kernel
theorem d_86_50 : decode c_86 50 = .ok (.goto (-29), 3) := by decide +kernel
theorem d_86_53 : decode c_86 53 = .ok (.lload_n 3, 1) := by decide +kernel
theorem d_86_54 : decode c_86 54 = .ok (.lreturn, 1) := by decide +kernel
set_option maxRecDepth 4000 in
theorem b_86_0 {mc ms : Nat} {X : Option (Nat × (Nat → Int32))} {T : aj_Tt} {Q : aj_Q} {J : aj_J} (hJ : aj_Cl 2 c_86 (some .long) false mc ms X T Q J) {o0 : Nat} {x1 : Int32} {x2 : Int32} {Z : aj_Z} {I : aj_I} {G : aj_G} {C : Nat × Nat} (h0 : x1 < 0 → Q (some (.long 0)) Z I G) (k0 : Z.2.1 o0 = some (.inl 2)) (h1 : ¬ x1 < 0 → x2 ≤ ((I o0 1) - x1) → J 21 [some (.ref o0), some (.int x1), some (.int x2), some (.long 0), none, some (.int 0)] [] Z I G C) (h2 : ¬ x1 < 0 → ¬ x2 ≤ ((I o0 1) - x1) → Q (some (.long 0)) Z I G) : J 0 [some (.ref o0), some (.int x1), some (.int x2), none, none, none] [] Z I G C := by
  refine s_iload_n hJ d_86_0 rfl ?_
  refine s_if_lt (tgt := 14) hJ d_86_1 rfl (fun c0 => ?_) (fun c0 => ?_)
  · skip
    refine s_lconst_0 hJ d_86_14 ?_
    exact s_lret hJ d_86_15 rfl (h0 c0)
  · skip
    refine s_iload_n hJ d_86_4 rfl ?_
    refine s_aload_n hJ d_86_5 rfl ?_
    refine s_geti hJ lf_2_15 rfl d_86_6 k0 ?_
    refine s_iload_n hJ d_86_9 rfl ?_
    refine s_isub hJ d_86_10 ?_
    refine s_icmp_le (tgt := 16) hJ d_86_11 rfl (fun c1 => ?_) (fun c1 => ?_)
    · skip
      refine s_lconst_0 hJ d_86_16 ?_
      refine s_lstore_n hJ d_86_17 (Nat.le_of_ble_eq_true rfl) ?_
      refine s_iconst_0 hJ d_86_18 ?_
      refine s_istore hJ d_86_19 (Nat.le_of_ble_eq_true rfl) ?_
      exact h1 c0 c1
    · skip
      refine s_lconst_0 hJ d_86_14 ?_
      exact s_lret hJ d_86_15 rfl (h2 c0 c1)
set_option maxRecDepth 4000 in
theorem b_86_21 {mc ms : Nat} {X : Option (Nat × (Nat → Int32))} {T : aj_Tt} {Q : aj_Q} {J : aj_J} (hJ : aj_Cl 2 c_86 (some .long) false mc ms X T Q J) {o0 : Nat} {x1 : Int32} {x2 : Int32} {x3 : Int64} {w4 : Option Value} {x5 : Int32} {q0 : Nat} {nk1 : Nat} {Z : aj_Z} {I : aj_I} {G : aj_G} {C : Nat × Nat} (h0 : x2 ≤ x5 → Q (some (.long x3)) Z I G) (k0 : Z.2.1 o0 = some (.inl 2)) (r0 : Z.2.2 o0 0 = .ref q0) (k1 : Z.2.1 q0 = some (.inr (2, nk1))) (h1 : ¬ x2 ≤ x5 → vp_in (x1 + x5) nk1) (h2 : ¬ x2 ≤ x5 → J 21 [some (.ref o0), some (.int x1), some (.int x2), some (.long ((x3 <<< (Int32.toInt64 8 &&& 63)) ||| (Int32.toInt64 ((I q0 (Int32.toNatClampNeg (x1 + x5))) &&& 255)))), none, some (.int (x5 + 1))] [] Z I G C) : J 21 [some (.ref o0), some (.int x1), some (.int x2), some (.long x3), w4, some (.int x5)] [] Z I G C := by
  refine s_iload hJ d_86_21 rfl ?_
  refine s_iload_n hJ d_86_23 rfl ?_
  refine s_icmp_ge (tgt := 53) hJ d_86_24 rfl (fun c0 => ?_) (fun c0 => ?_)
  · skip
    refine s_lload_n hJ d_86_53 rfl ?_
    exact s_lret hJ d_86_54 rfl (h0 c0)
  · skip
    refine s_lload_n hJ d_86_27 rfl ?_
    refine s_bipush (v := 8) hJ d_86_28 (by decide) ?_
    refine s_lshl hJ d_86_30 ?_
    refine s_aload_n hJ d_86_31 rfl ?_
    refine s_getr hJ lf_2_9 rfl d_86_32 k0 r0 ?_
    refine s_iload_n hJ d_86_35 rfl ?_
    refine s_iload hJ d_86_36 rfl ?_
    refine s_iadd hJ d_86_38 ?_
    refine s_bald hJ d_86_39 k1 (h1 c0) ?_
    refine s_sipush (v := 255) hJ d_86_40 (by decide) ?_
    refine s_iand hJ d_86_43 ?_
    refine s_i2l hJ d_86_44 ?_
    refine s_lor hJ d_86_45 ?_
    refine s_lstore_n hJ d_86_46 (Nat.le_of_ble_eq_true rfl) ?_
    refine s_iinc (v := 1) hJ d_86_47 rfl (by decide) ?_
    refine s_goto (tgt := 21) hJ d_86_50 rfl ?_
    exact h2 c0
-- ReelOfBoxes$ByteRow.lowestFirst(JI)J : method 87
theorem d_87_0 : decode c_87 0 = .ok (.lload_n 1, 1) := by decide +kernel
theorem d_87_1 : decode c_87 1 = .ok (.lconst 0, 1) := by decide +kernel
theorem d_87_2 : decode c_87 2 = .ok (.lcmp, 1) := by decide +kernel
theorem d_87_3 : decode c_87 3 = .ok (.ifCond .lt (16), 3) := by decide +kernel
theorem d_87_6 : decode c_87 6 = .ok (.lload_n 1, 1) := by decide +kernel
theorem d_87_7 : decode c_87 7 = .ok (.iload_n 3, 1) := by decide +kernel
theorem d_87_8 : decode c_87 8 = .ok (.i2l, 1) := by decide +kernel
theorem d_87_9 : decode c_87 9 = .ok (.ladd, 1) := by decide +kernel
theorem d_87_10 : decode c_87 10 = .ok (.aload_n 0, 1) := by decide +kernel
theorem d_87_11 : decode c_87 11 = .ok (.getfield 15, 3) := by decide +kernel
theorem d_87_14 : decode c_87 14 = .ok (.i2l, 1) := by decide +kernel
theorem d_87_15 : decode c_87 15 = .ok (.lcmp, 1) := by decide +kernel
theorem d_87_16 : decode c_87 16 = .ok (.ifCond .le (5), 3) := by decide +kernel
theorem d_87_19 : decode c_87 19 = .ok (.lconst 0, 1) := by decide +kernel
theorem d_87_20 : decode c_87 20 = .ok (.lreturn, 1) := by decide +kernel
theorem d_87_21 : decode c_87 21 = .ok (.lconst 0, 1) := by decide +kernel
theorem d_87_22 : decode c_87 22 = .ok (.lstore 4, 2) := by decide +kernel
theorem d_87_24 : decode c_87 24 = .ok (.iload_n 3, 1) := by decide +kernel
theorem d_87_25 : decode c_87 25 = .ok (.iconst (1), 1) := by decide +kernel
theorem d_87_26 : decode c_87 26 = .ok (.isub, 1) := by decide +kernel
theorem d_87_27 : decode c_87 27 = .ok (.istore 6, 2) := by decide +kernel
theorem d_87_29 : decode c_87 29 = .ok (.iload 6, 2) := by decide +kernel
theorem d_87_31 : decode c_87 31 = .ok (.ifCond .lt (32), 3) := by decide +kernel
theorem d_87_34 : decode c_87 34 = .ok (.lload 4, 2) := by decide +kernel
theorem d_87_36 : decode c_87 36 = .ok (.bipush (8), 2) := by decide +kernel
theorem d_87_38 : decode c_87 38 = .ok (.lshl, 1) := by decide +kernel
theorem d_87_39 : decode c_87 39 = .ok (.aload_n 0, 1) := by decide +kernel
theorem d_87_40 : decode c_87 40 = .ok (.getfield 9, 3) := by decide +kernel
theorem d_87_43 : decode c_87 43 = .ok (.lload_n 1, 1) := by decide +kernel
theorem d_87_44 : decode c_87 44 = .ok (.l2i, 1) := by decide +kernel
theorem d_87_45 : decode c_87 45 = .ok (.iload 6, 2) := by decide +kernel
theorem d_87_47 : decode c_87 47 = .ok (.iadd, 1) := by decide +kernel
theorem d_87_48 : decode c_87 48 = .ok (.baload, 1) := by decide +kernel
theorem d_87_49 : decode c_87 49 = .ok (.sipush (255), 3) := by decide +kernel
theorem d_87_52 : decode c_87 52 = .ok (.iand, 1) := by decide +kernel
theorem d_87_53 : decode c_87 53 = .ok (.i2l, 1) := by decide +kernel
theorem d_87_54 : decode c_87 54 = .ok (.lor, 1) := by decide +kernel
theorem d_87_55 : decode c_87 55 = .ok (.lstore 4, 2) := by decide +kernel
theorem d_87_57 : decode c_87 57 = .ok (.iinc 6 (-1), 3) := by decide +kernel
theorem d_87_60 : decode c_87 60 = .ok (.goto (-31), 3) := by decide +kernel
theorem d_87_63 : decode c_87 63 = .ok (.lload 4, 2) := by decide +kernel
theorem d_87_65 : decode c_87 65 = .ok (.lreturn, 1) := by decide +kernel
set_option maxRecDepth 4000 in
theorem b_87_0 {mc ms : Nat} {X : Option (Nat × (Nat → Int32))} {T : aj_Tt} {Q : aj_Q} {J : aj_J} (hJ : aj_Cl 2 c_87 (some .long) false mc ms X T Q J) {o0 : Nat} {x1 : Int64} {x3 : Int32} {Z : aj_Z} {I : aj_I} {G : aj_G} {C : Nat × Nat} (h0 : x1 < 0 → Q (some (.long 0)) Z I G) (k0 : Z.2.1 o0 = some (.inl 2)) (h1 : ¬ x1 < 0 → (x1 + (Int32.toInt64 x3)) ≤ (Int32.toInt64 (I o0 1)) → J 29 [some (.ref o0), some (.long x1), none, some (.int x3), some (.long 0), none, some (.int (x3 - 1))] [] Z I G C) (h2 : ¬ x1 < 0 → ¬ (x1 + (Int32.toInt64 x3)) ≤ (Int32.toInt64 (I o0 1)) → Q (some (.long 0)) Z I G) : J 0 [some (.ref o0), some (.long x1), none, some (.int x3), none, none, none] [] Z I G C := by
  refine s_lload_n hJ d_87_0 rfl ?_
  refine s_lconst_0 hJ d_87_1 ?_
  refine s_lif_lt (tgt := 19) hJ d_87_2 d_87_3 rfl (fun c0 => ?_) (fun c0 => ?_)
  · skip
    refine s_lconst_0 hJ d_87_19 ?_
    exact s_lret hJ d_87_20 rfl (h0 c0)
  · skip
    refine s_lload_n hJ d_87_6 rfl ?_
    refine s_iload_n hJ d_87_7 rfl ?_
    refine s_i2l hJ d_87_8 ?_
    refine s_ladd hJ d_87_9 ?_
    refine s_aload_n hJ d_87_10 rfl ?_
    refine s_geti hJ lf_2_15 rfl d_87_11 k0 ?_
    refine s_i2l hJ d_87_14 ?_
    refine s_lif_le (tgt := 21) hJ d_87_15 d_87_16 rfl (fun c1 => ?_) (fun c1 => ?_)
    · skip
      refine s_lconst_0 hJ d_87_21 ?_
      refine s_lstore hJ d_87_22 (Nat.le_of_ble_eq_true rfl) ?_
      refine s_iload_n hJ d_87_24 rfl ?_
      refine s_iconst_1 hJ d_87_25 ?_
      refine s_isub hJ d_87_26 ?_
      refine s_istore hJ d_87_27 (Nat.le_of_ble_eq_true rfl) ?_
      exact h1 c0 c1
    · skip
      refine s_lconst_0 hJ d_87_19 ?_
      exact s_lret hJ d_87_20 rfl (h2 c0 c1)
set_option maxRecDepth 4000 in
theorem b_87_29 {mc ms : Nat} {X : Option (Nat × (Nat → Int32))} {T : aj_Tt} {Q : aj_Q} {J : aj_J} (hJ : aj_Cl 2 c_87 (some .long) false mc ms X T Q J) {o0 : Nat} {x1 : Int64} {w2 : Option Value} {w3 : Option Value} {x4 : Int64} {w5 : Option Value} {x6 : Int32} {q0 : Nat} {nk1 : Nat} {Z : aj_Z} {I : aj_I} {G : aj_G} {C : Nat × Nat} (h0 : x6 < 0 → Q (some (.long x4)) Z I G) (k0 : Z.2.1 o0 = some (.inl 2)) (r0 : Z.2.2 o0 0 = .ref q0) (k1 : Z.2.1 q0 = some (.inr (2, nk1))) (h1 : ¬ x6 < 0 → vp_in ((Int64.toInt32 x1) + x6) nk1) (h2 : ¬ x6 < 0 → J 29 [some (.ref o0), some (.long x1), w2, (aj_clr w3), some (.long ((x4 <<< (Int32.toInt64 8 &&& 63)) ||| (Int32.toInt64 ((I q0 (Int32.toNatClampNeg ((Int64.toInt32 x1) + x6))) &&& 255)))), none, some (.int (x6 + (-1)))] [] Z I G C) : J 29 [some (.ref o0), some (.long x1), w2, w3, some (.long x4), w5, some (.int x6)] [] Z I G C := by
  refine s_iload hJ d_87_29 rfl ?_
  refine s_if_lt (tgt := 63) hJ d_87_31 rfl (fun c0 => ?_) (fun c0 => ?_)
  · skip
    refine s_lload hJ d_87_63 rfl ?_
    exact s_lret hJ d_87_65 rfl (h0 c0)
  · skip
    refine s_lload hJ d_87_34 rfl ?_
    refine s_bipush (v := 8) hJ d_87_36 (by decide) ?_
    refine s_lshl hJ d_87_38 ?_
    refine s_aload_n hJ d_87_39 rfl ?_
    refine s_getr hJ lf_2_9 rfl d_87_40 k0 r0 ?_
    refine s_lload_n hJ d_87_43 rfl ?_
    refine s_l2i hJ d_87_44 ?_
    refine s_iload hJ d_87_45 rfl ?_
    refine s_iadd hJ d_87_47 ?_
    refine s_bald hJ d_87_48 k1 (h1 c0) ?_
    refine s_sipush (v := 255) hJ d_87_49 (by decide) ?_
    refine s_iand hJ d_87_52 ?_
    refine s_i2l hJ d_87_53 ?_
    refine s_lor hJ d_87_54 ?_
    refine s_lstore hJ d_87_55 (Nat.le_of_ble_eq_true rfl) ?_
    refine s_iinc (v := (-1)) hJ d_87_57 rfl (by decide) ?_
    refine s_goto (tgt := 29) hJ d_87_60 rfl ?_
    exact h2 c0
-- ReelOfBoxes$Fault.<init>()V : method 88
theorem d_88_0 : decode c_88 0 = .ok (.aload_n 0, 1) := by decide +kernel
theorem d_88_1 : decode c_88 1 = .ok (.invokespecial 3, 3) := by decide +kernel
theorem d_88_4 : decode c_88 4 = .ok (.aload_n 0, 1) := by decide +kernel
theorem d_88_5 : decode c_88 5 = .ok (.iconst (0), 1) := by decide +kernel
theorem d_88_6 : decode c_88 6 = .ok (.putfield 9, 3) := by decide +kernel
theorem d_88_9 : decode c_88 9 = .ok (.aload_n 0, 1) := by decide +kernel
theorem d_88_10 : decode c_88 10 = .ok (.iconst (-1), 1) := by decide +kernel
theorem d_88_11 : decode c_88 11 = .ok (.putfield 15, 3) := by decide +kernel
theorem d_88_14 : decode c_88 14 = .ok (.return_, 1) := by decide +kernel
-- ReelOfBoxes$Fault.forget()V : method 89
theorem d_89_0 : decode c_89 0 = .ok (.aload_n 0, 1) := by decide +kernel
theorem d_89_1 : decode c_89 1 = .ok (.iconst (0), 1) := by decide +kernel
theorem d_89_2 : decode c_89 2 = .ok (.putfield 9, 3) := by decide +kernel
theorem d_89_5 : decode c_89 5 = .ok (.aload_n 0, 1) := by decide +kernel
theorem d_89_6 : decode c_89 6 = .ok (.iconst (-1), 1) := by decide +kernel
theorem d_89_7 : decode c_89 7 = .ok (.putfield 15, 3) := by decide +kernel
theorem d_89_10 : decode c_89 10 = .ok (.return_, 1) := by decide +kernel
set_option maxRecDepth 4000 in
theorem b_89_0 {mc ms : Nat} {X : Option (Nat × (Nat → Int32))} {T : aj_Tt} {Q : aj_Q} {J : aj_J} (hJ : aj_Cl 3 c_89 (none) false mc ms X T Q J) {o0 : Nat} {Z : aj_Z} {I : aj_I} {G : aj_G} {C : Nat × Nat} (k0 : Z.2.1 o0 = some (.inl 3)) (h0 : Q none Z (aj_u2 (aj_u2 I o0 0 0) o0 1 (-1)) G) : J 0 [some (.ref o0)] [] Z I G C := by
  refine s_aload_n hJ d_89_0 rfl ?_
  refine s_iconst_0 hJ d_89_1 ?_
  refine s_puti hJ lf_3_9 rfl d_89_2 k0 ?_
  refine s_aload_n hJ d_89_5 rfl ?_
  refine s_iconst_m1 hJ d_89_6 ?_
  refine s_puti hJ lf_3_15 rfl d_89_7 k0 ?_
  exact s_vret hJ d_89_10 rfl (h0)
-- ReelOfBoxes$Fault.tell(II)Z : method 90
theorem d_90_0 : decode c_90 0 = .ok (.aload_n 0, 1) := by decide +kernel
theorem d_90_1 : decode c_90 1 = .ok (.iload_n 1, 1) := by decide +kernel
theorem d_90_2 : decode c_90 2 = .ok (.putfield 9, 3) := by decide +kernel
theorem d_90_5 : decode c_90 5 = .ok (.aload_n 0, 1) := by decide +kernel
theorem d_90_6 : decode c_90 6 = .ok (.iload_n 2, 1) := by decide +kernel
theorem d_90_7 : decode c_90 7 = .ok (.putfield 15, 3) := by decide +kernel
theorem d_90_10 : decode c_90 10 = .ok (.iconst (0), 1) := by decide +kernel
theorem d_90_11 : decode c_90 11 = .ok (.ireturn, 1) := by decide +kernel
set_option maxRecDepth 4000 in
theorem b_90_0 {mc ms : Nat} {X : Option (Nat × (Nat → Int32))} {T : aj_Tt} {Q : aj_Q} {J : aj_J} (hJ : aj_Cl 3 c_90 (some .boolean) false mc ms X T Q J) {o0 : Nat} {x1 : Int32} {x2 : Int32} {Z : aj_Z} {I : aj_I} {G : aj_G} {C : Nat × Nat} (k0 : Z.2.1 o0 = some (.inl 3)) (h0 : Q (some (.int 0)) Z (aj_u2 (aj_u2 I o0 0 x1) o0 1 x2) G) : J 0 [some (.ref o0), some (.int x1), some (.int x2)] [] Z I G C := by
  refine s_aload_n hJ d_90_0 rfl ?_
  refine s_iload_n hJ d_90_1 rfl ?_
  refine s_puti hJ lf_3_9 rfl d_90_2 k0 ?_
  refine s_aload_n hJ d_90_5 rfl ?_
  refine s_iload_n hJ d_90_6 rfl ?_
  refine s_puti hJ lf_3_15 rfl d_90_7 k0 ?_
  refine s_iconst_0 hJ d_90_10 ?_
  exact s_iret hJ d_90_11 rfl rfl (h0)
-- ReelOfBoxes$Track.<init>()V : method 129
theorem d_129_0 : decode c_129 0 = .ok (.aload_n 0, 1) := by decide +kernel
theorem d_129_1 : decode c_129 1 = .ok (.invokespecial 3, 3) := by decide +kernel
theorem d_129_4 : decode c_129 4 = .ok (.aload_n 0, 1) := by decide +kernel
theorem d_129_5 : decode c_129 5 = .ok (.bipush (16), 2) := by decide +kernel
theorem d_129_7 : decode c_129 7 = .ok (.newarray .int, 2) := by decide +kernel
theorem d_129_9 : decode c_129 9 = .ok (.putfield 9, 3) := by decide +kernel
theorem d_129_12 : decode c_129 12 = .ok (.aload_n 0, 1) := by decide +kernel
theorem d_129_13 : decode c_129 13 = .ok (.bipush (16), 2) := by decide +kernel
theorem d_129_15 : decode c_129 15 = .ok (.newarray .int, 2) := by decide +kernel
theorem d_129_17 : decode c_129 17 = .ok (.putfield 15, 3) := by decide +kernel
theorem d_129_20 : decode c_129 20 = .ok (.aload_n 0, 1) := by decide +kernel
theorem d_129_21 : decode c_129 21 = .ok (.bipush (16), 2) := by decide +kernel
theorem d_129_23 : decode c_129 23 = .ok (.newarray .long, 2) := by decide +kernel
theorem d_129_25 : decode c_129 25 = .ok (.putfield 18, 3) := by decide +kernel
theorem d_129_28 : decode c_129 28 = .ok (.aload_n 0, 1) := by decide +kernel
theorem d_129_29 : decode c_129 29 = .ok (.iconst (0), 1) := by decide +kernel
theorem d_129_30 : decode c_129 30 = .ok (.putfield 22, 3) := by decide +kernel
theorem d_129_33 : decode c_129 33 = .ok (.return_, 1) := by decide +kernel
-- ReelOfBoxes$Track.sampleCount()I : method 130
theorem d_130_0 : decode c_130 0 = .ok (.aload_n 0, 1) := by decide +kernel
theorem d_130_1 : decode c_130 1 = .ok (.getfield 22, 3) := by decide +kernel
theorem d_130_4 : decode c_130 4 = .ok (.ireturn, 1) := by decide +kernel
set_option maxRecDepth 4000 in
theorem b_130_0 {mc ms : Nat} {X : Option (Nat × (Nat → Int32))} {T : aj_Tt} {Q : aj_Q} {J : aj_J} (hJ : aj_Cl 8 c_130 (some .int) false mc ms X T Q J) {o0 : Nat} {Z : aj_Z} {I : aj_I} {G : aj_G} {C : Nat × Nat} (k0 : Z.2.1 o0 = some (.inl 8)) (h0 : Q (some (.int (I o0 3))) Z I G) : J 0 [some (.ref o0)] [] Z I G C := by
  refine s_aload_n hJ d_130_0 rfl ?_
  refine s_geti hJ lf_8_22 rfl d_130_1 k0 ?_
  exact s_iret hJ d_130_4 rfl rfl (h0)
-- ReelOfBoxes$Track.dropSamples()V : method 131
theorem d_131_0 : decode c_131 0 = .ok (.aload_n 0, 1) := by decide +kernel
theorem d_131_1 : decode c_131 1 = .ok (.iconst (0), 1) := by decide +kernel
theorem d_131_2 : decode c_131 2 = .ok (.putfield 22, 3) := by decide +kernel
theorem d_131_5 : decode c_131 5 = .ok (.return_, 1) := by decide +kernel
set_option maxRecDepth 4000 in
theorem b_131_0 {mc ms : Nat} {X : Option (Nat × (Nat → Int32))} {T : aj_Tt} {Q : aj_Q} {J : aj_J} (hJ : aj_Cl 8 c_131 (none) false mc ms X T Q J) {o0 : Nat} {Z : aj_Z} {I : aj_I} {G : aj_G} {C : Nat × Nat} (k0 : Z.2.1 o0 = some (.inl 8)) (h0 : Q none Z (aj_u2 I o0 3 0) G) : J 0 [some (.ref o0)] [] Z I G C := by
  refine s_aload_n hJ d_131_0 rfl ?_
  refine s_iconst_0 hJ d_131_1 ?_
  refine s_puti hJ lf_8_22 rfl d_131_2 k0 ?_
  exact s_vret hJ d_131_5 rfl (h0)
-- ReelOfBoxes$Track.addSample(IJI)I : method 132
theorem d_132_0 : decode c_132 0 = .ok (.aload_n 0, 1) := by decide +kernel
theorem d_132_1 : decode c_132 1 = .ok (.getfield 22, 3) := by decide +kernel
theorem d_132_4 : decode c_132 4 = .ok (.bipush (16), 2) := by decide +kernel
theorem d_132_6 : decode c_132 6 = .ok (.if_icmp .ge (19), 3) := by decide +kernel
theorem d_132_9 : decode c_132 9 = .ok (.iload_n 1, 1) := by decide +kernel
theorem d_132_10 : decode c_132 10 = .ok (.ifCond .lt (15), 3) := by decide +kernel
theorem d_132_13 : decode c_132 13 = .ok (.iload 4, 2) := by decide +kernel
theorem d_132_15 : decode c_132 15 = .ok (.ifCond .lt (10), 3) := by decide +kernel
theorem d_132_18 : decode c_132 18 = .ok (.iload 4, 2) := by decide +kernel
theorem d_132_20 : decode c_132 20 = .ok (.bipush (8), 2) := by decide +kernel
theorem d_132_22 : decode c_132 22 = .ok (.if_icmp .le (5), 3) := by decide +kernel
theorem d_132_25 : decode c_132 25 = .ok (.iconst (-1), 1) := by decide +kernel
theorem d_132_26 : decode c_132 26 = .ok (.ireturn, 1) := by decide +kernel
theorem d_132_27 : decode c_132 27 = .ok (.aload_n 0, 1) := by decide +kernel
theorem d_132_28 : decode c_132 28 = .ok (.getfield 9, 3) := by decide +kernel
theorem d_132_31 : decode c_132 31 = .ok (.aload_n 0, 1) := by decide +kernel
theorem d_132_32 : decode c_132 32 = .ok (.getfield 22, 3) := by decide +kernel
theorem d_132_35 : decode c_132 35 = .ok (.iload_n 1, 1) := by decide +kernel
theorem d_132_36 : decode c_132 36 = .ok (.iastore, 1) := by decide +kernel
theorem d_132_37 : decode c_132 37 = .ok (.aload_n 0, 1) := by decide +kernel
theorem d_132_38 : decode c_132 38 = .ok (.getfield 15, 3) := by decide +kernel
theorem d_132_41 : decode c_132 41 = .ok (.aload_n 0, 1) := by decide +kernel
theorem d_132_42 : decode c_132 42 = .ok (.getfield 22, 3) := by decide +kernel
theorem d_132_45 : decode c_132 45 = .ok (.iload 4, 2) := by decide +kernel
theorem d_132_47 : decode c_132 47 = .ok (.iastore, 1) := by decide +kernel
theorem d_132_48 : decode c_132 48 = .ok (.aload_n 0, 1) := by decide +kernel
theorem d_132_49 : decode c_132 49 = .ok (.getfield 18, 3) := by decide +kernel
theorem d_132_52 : decode c_132 52 = .ok (.aload_n 0, 1) := by decide +kernel
theorem d_132_53 : decode c_132 53 = .ok (.getfield 22, 3) := by decide +kernel
theorem d_132_56 : decode c_132 56 = .ok (.lload_n 2, 1) := by decide +kernel
theorem d_132_57 : decode c_132 57 = .ok (.iload 4, 2) := by decide +kernel
theorem d_132_59 : decode c_132 59 = .ok (.invokestatic 26, 3) := by decide +kernel
theorem d_132_62 : decode c_132 62 = .ok (.lastore, 1) := by decide +kernel
theorem d_132_63 : decode c_132 63 = .ok (.aload_n 0, 1) := by decide +kernel
theorem d_132_64 : decode c_132 64 = .ok (.dup, 1) := by decide +kernel
theorem d_132_65 : decode c_132 65 = .ok (.getfield 22, 3) := by decide +kernel
theorem d_132_68 : decode c_132 68 = .ok (.iconst (1), 1) := by decide +kernel
theorem d_132_69 : decode c_132 69 = .ok (.iadd, 1) := by decide +kernel
theorem d_132_70 : decode c_132 70 = .ok (.putfield 22, 3) := by decide +kernel
theorem d_132_73 : decode c_132 73 = .ok (.aload_n 0, 1) := by decide +kernel
theorem d_132_74 : decode c_132 74 = .ok (.getfield 22, 3) := by decide +kernel
theorem d_132_77 : decode c_132 77 = .ok (.iconst (1), 1) := by decide +kernel
theorem d_132_78 : decode c_132 78 = .ok (.isub, 1) := by decide +kernel
theorem d_132_79 : decode c_132 79 = .ok (.ireturn, 1) := by decide +kernel
set_option maxRecDepth 4000 in
theorem b_132_0 {mc ms : Nat} {X : Option (Nat × (Nat → Int32))} {T : aj_Tt} {Q : aj_Q} {J : aj_J} (hJ : aj_Cl 8 c_132 (some .int) false mc ms X T Q J) {o0 : Nat} {x1 : Int32} {x2 : Int64} {x4 : Int32} {q0 : Nat} {nk1 : Nat} {q1 : Nat} {nk3 : Nat} {q2 : Nat} {Z : aj_Z} {I : aj_I} {G : aj_G} {C : Nat × Nat} (k0 : Z.2.1 o0 = some (.inl 8)) (h0 : 16 ≤ (I o0 3) → Q (some (.int (-1))) Z I G) (h1 : ¬ 16 ≤ (I o0 3) → x1 < 0 → Q (some (.int (-1))) Z I G) (h2 : ¬ 16 ≤ (I o0 3) → ¬ x1 < 0 → x4 < 0 → Q (some (.int (-1))) Z I G) (r0 : Z.2.2 o0 0 = .ref q0) (k1 : Z.2.1 q0 = some (.inr (0, nk1))) (h3 : ¬ 16 ≤ (I o0 3) → ¬ x1 < 0 → ¬ x4 < 0 → x4 ≤ 8 → vp_in (I o0 3) nk1) (r1 : Z.2.2 o0 1 = .ref q1) (k3 : Z.2.1 q1 = some (.inr (0, nk3))) (h4 : ¬ 16 ≤ (I o0 3) → ¬ x1 < 0 → ¬ x4 < 0 → x4 ≤ 8 → vp_in ((aj_u2 I q0 (Int32.toNatClampNeg (I o0 3)) x1) o0 3) nk3) (r2 : Z.2.2 o0 2 = .ref q2) (h5 : ¬ 16 ≤ (I o0 3) → ¬ x1 < 0 → ¬ x4 < 0 → x4 ≤ 8 → T 0 0 137 [.long x2, .int x4] Z (aj_u2 (aj_u2 I q0 (Int32.toNatClampNeg (I o0 3)) x1) q1 (Int32.toNatClampNeg ((aj_u2 I q0 (Int32.toNatClampNeg (I o0 3)) x1) o0 3)) x4) G (fun r Z1 I1 G1 => J 62 [some (.ref o0), some (.int x1), some (.long x2), none, some (.int x4)] (r.toList ++ [.int ((aj_u2 (aj_u2 I q0 (Int32.toNatClampNeg (I o0 3)) x1) q1 (Int32.toNatClampNeg ((aj_u2 I q0 (Int32.toNatClampNeg (I o0 3)) x1) o0 3)) x4) o0 3), .ref q2]) Z1 I1 G1 C)) (h6 : ¬ 16 ≤ (I o0 3) → ¬ x1 < 0 → ¬ x4 < 0 → ¬ x4 ≤ 8 → Q (some (.int (-1))) Z I G) : J 0 [some (.ref o0), some (.int x1), some (.long x2), none, some (.int x4)] [] Z I G C := by
  refine s_aload_n hJ d_132_0 rfl ?_
  refine s_geti hJ lf_8_22 rfl d_132_1 k0 ?_
  refine s_bipush (v := 16) hJ d_132_4 (by decide) ?_
  refine s_icmp_ge (tgt := 25) hJ d_132_6 rfl (fun c0 => ?_) (fun c0 => ?_)
  · skip
    refine s_iconst_m1 hJ d_132_25 ?_
    exact s_iret hJ d_132_26 rfl rfl (h0 c0)
  · skip
    refine s_iload_n hJ d_132_9 rfl ?_
    refine s_if_lt (tgt := 25) hJ d_132_10 rfl (fun c1 => ?_) (fun c1 => ?_)
    · skip
      refine s_iconst_m1 hJ d_132_25 ?_
      exact s_iret hJ d_132_26 rfl rfl (h1 c0 c1)
    · skip
      refine s_iload hJ d_132_13 rfl ?_
      refine s_if_lt (tgt := 25) hJ d_132_15 rfl (fun c2 => ?_) (fun c2 => ?_)
      · skip
        refine s_iconst_m1 hJ d_132_25 ?_
        exact s_iret hJ d_132_26 rfl rfl (h2 c0 c1 c2)
      · skip
        refine s_iload hJ d_132_18 rfl ?_
        refine s_bipush (v := 8) hJ d_132_20 (by decide) ?_
        refine s_icmp_le (tgt := 27) hJ d_132_22 rfl (fun c3 => ?_) (fun c3 => ?_)
        · skip
          refine s_aload_n hJ d_132_27 rfl ?_
          refine s_getr hJ lf_8_9 rfl d_132_28 k0 r0 ?_
          refine s_aload_n hJ d_132_31 rfl ?_
          refine s_geti hJ lf_8_22 rfl d_132_32 k0 ?_
          refine s_iload_n hJ d_132_35 rfl ?_
          refine s_iast hJ d_132_36 k1 (h3 c0 c1 c2 c3) ?_
          refine s_aload_n hJ d_132_37 rfl ?_
          refine s_getr hJ lf_8_15 rfl d_132_38 k0 r1 ?_
          refine s_aload_n hJ d_132_41 rfl ?_
          refine s_geti hJ lf_8_22 rfl d_132_42 k0 ?_
          refine s_iload hJ d_132_45 rfl ?_
          refine s_iast hJ d_132_47 k3 (h4 c0 c1 c2 c3) ?_
          refine s_aload_n hJ d_132_48 rfl ?_
          refine s_getr hJ lf_8_18 rfl d_132_49 k0 r2 ?_
          refine s_aload_n hJ d_132_52 rfl ?_
          refine s_geti hJ lf_8_22 rfl d_132_53 k0 ?_
          refine s_lload_n hJ d_132_56 rfl ?_
          refine s_iload hJ d_132_57 rfl ?_
          exact s_S2 hJ lm_8_26 d_132_59 (Nat.le_of_ble_eq_true rfl) (h5 c0 c1 c2 c3)
        · skip
          refine s_iconst_m1 hJ d_132_25 ?_
          exact s_iret hJ d_132_26 rfl rfl (h6 c0 c1 c2 c3)
set_option maxRecDepth 4000 in
theorem b_132_62 {mc ms : Nat} {X : Option (Nat × (Nat → Int32))} {T : aj_Tt} {Q : aj_Q} {J : aj_J} (hJ : aj_Cl 8 c_132 (some .int) false mc ms X T Q J) {o0 : Nat} {w1 : Option Value} {w2 : Option Value} {w3 : Option Value} {w4 : Option Value} {s0 : Int64} {s1 : Int32} {s2 : Nat} {nk0 : Nat} {Z : aj_Z} {I : aj_I} {G : aj_G} {C : Nat × Nat} (k0 : Z.2.1 s2 = some (.inr (1, nk0))) (h0 : vp_in s1 nk0) (k2 : Z.2.1 o0 = some (.inl 8)) (h1 : Q (some (.int (((aj_u2 I o0 3 ((I o0 3) + 1)) o0 3) - 1))) Z (aj_u2 I o0 3 ((I o0 3) + 1)) (aj_u2 G s2 (Int32.toNatClampNeg s1) s0)) : J 62 [some (.ref o0), w1, w2, w3, w4] [.long s0, .int s1, .ref s2] Z I G C := by
  refine s_last hJ d_132_62 k0 (h0) ?_
  refine s_aload_n hJ d_132_63 rfl ?_
  refine s_dup hJ d_132_64 rfl ?_
  refine s_geti hJ lf_8_22 rfl d_132_65 k2 ?_
  refine s_iconst_1 hJ d_132_68 ?_
  refine s_iadd hJ d_132_69 ?_
  refine s_puti hJ lf_8_22 rfl d_132_70 k2 ?_
  refine s_aload_n hJ d_132_73 rfl ?_
  refine s_geti hJ lf_8_22 rfl d_132_74 k2 ?_
  refine s_iconst_1 hJ d_132_77 ?_
  refine s_isub hJ d_132_78 ?_
  exact s_iret hJ d_132_79 rfl rfl (h1)
-- ReelOfBoxes$Track.sizeOf(I)I : method 133
theorem d_133_0 : decode c_133 0 = .ok (.iload_n 1, 1) := by decide +kernel
theorem d_133_1 : decode c_133 1 = .ok (.ifCond .lt (20), 3) := by decide +kernel
theorem d_133_4 : decode c_133 4 = .ok (.iload_n 1, 1) := by decide +kernel
theorem d_133_5 : decode c_133 5 = .ok (.aload_n 0, 1) := by decide +kernel
theorem d_133_6 : decode c_133 6 = .ok (.getfield 22, 3) := by decide +kernel
theorem d_133_9 : decode c_133 9 = .ok (.if_icmp .ge (12), 3) := by decide +kernel
theorem d_133_12 : decode c_133 12 = .ok (.aload_n 0, 1) := by decide +kernel
theorem d_133_13 : decode c_133 13 = .ok (.getfield 15, 3) := by decide +kernel
theorem d_133_16 : decode c_133 16 = .ok (.iload_n 1, 1) := by decide +kernel
theorem d_133_17 : decode c_133 17 = .ok (.iaload, 1) := by decide +kernel
theorem d_133_18 : decode c_133 18 = .ok (.goto (4), 3) := by decide +kernel
theorem d_133_21 : decode c_133 21 = .ok (.iconst (-1), 1) := by decide +kernel
theorem d_133_22 : decode c_133 22 = .ok (.ireturn, 1) := by decide +kernel
set_option maxRecDepth 4000 in
theorem b_133_0 {mc ms : Nat} {X : Option (Nat × (Nat → Int32))} {T : aj_Tt} {Q : aj_Q} {J : aj_J} (hJ : aj_Cl 8 c_133 (some .int) false mc ms X T Q J) {o0 : Nat} {x1 : Int32} {q0 : Nat} {nk1 : Nat} {Z : aj_Z} {I : aj_I} {G : aj_G} {C : Nat × Nat} (h0 : x1 < 0 → Q (some (.int (-1))) Z I G) (k0 : Z.2.1 o0 = some (.inl 8)) (h1 : ¬ x1 < 0 → (I o0 3) ≤ x1 → Q (some (.int (-1))) Z I G) (r0 : Z.2.2 o0 1 = .ref q0) (k1 : Z.2.1 q0 = some (.inr (0, nk1))) (h2 : ¬ x1 < 0 → ¬ (I o0 3) ≤ x1 → vp_in x1 nk1) (h3 : ¬ x1 < 0 → ¬ (I o0 3) ≤ x1 → Q (some (.int (I q0 (Int32.toNatClampNeg x1)))) Z I G) : J 0 [some (.ref o0), some (.int x1)] [] Z I G C := by
  refine s_iload_n hJ d_133_0 rfl ?_
  refine s_if_lt (tgt := 21) hJ d_133_1 rfl (fun c0 => ?_) (fun c0 => ?_)
  · skip
    refine s_iconst_m1 hJ d_133_21 ?_
    exact s_iret hJ d_133_22 rfl rfl (h0 c0)
  · skip
    refine s_iload_n hJ d_133_4 rfl ?_
    refine s_aload_n hJ d_133_5 rfl ?_
    refine s_geti hJ lf_8_22 rfl d_133_6 k0 ?_
    refine s_icmp_ge (tgt := 21) hJ d_133_9 rfl (fun c1 => ?_) (fun c1 => ?_)
    · skip
      refine s_iconst_m1 hJ d_133_21 ?_
      exact s_iret hJ d_133_22 rfl rfl (h1 c0 c1)
    · skip
      refine s_aload_n hJ d_133_12 rfl ?_
      refine s_getr hJ lf_8_15 rfl d_133_13 k0 r0 ?_
      refine s_iload_n hJ d_133_16 rfl ?_
      refine s_iald hJ d_133_17 k1 (h2 c0 c1) ?_
      refine s_goto (tgt := 22) hJ d_133_18 rfl ?_
      exact s_iret hJ d_133_22 rfl rfl (h3 c0 c1)
-- ReelOfBoxes$Track.durationOf(I)I : method 134
theorem d_134_0 : decode c_134 0 = .ok (.iload_n 1, 1) := by decide +kernel
theorem d_134_1 : decode c_134 1 = .ok (.ifCond .lt (20), 3) := by decide +kernel
theorem d_134_4 : decode c_134 4 = .ok (.iload_n 1, 1) := by decide +kernel
theorem d_134_5 : decode c_134 5 = .ok (.aload_n 0, 1) := by decide +kernel
theorem d_134_6 : decode c_134 6 = .ok (.getfield 22, 3) := by decide +kernel
theorem d_134_9 : decode c_134 9 = .ok (.if_icmp .ge (12), 3) := by decide +kernel
theorem d_134_12 : decode c_134 12 = .ok (.aload_n 0, 1) := by decide +kernel
theorem d_134_13 : decode c_134 13 = .ok (.getfield 9, 3) := by decide +kernel
theorem d_134_16 : decode c_134 16 = .ok (.iload_n 1, 1) := by decide +kernel
theorem d_134_17 : decode c_134 17 = .ok (.iaload, 1) := by decide +kernel
theorem d_134_18 : decode c_134 18 = .ok (.goto (4), 3) := by decide +kernel
theorem d_134_21 : decode c_134 21 = .ok (.iconst (-1), 1) := by decide +kernel
theorem d_134_22 : decode c_134 22 = .ok (.ireturn, 1) := by decide +kernel
set_option maxRecDepth 4000 in
theorem b_134_0 {mc ms : Nat} {X : Option (Nat × (Nat → Int32))} {T : aj_Tt} {Q : aj_Q} {J : aj_J} (hJ : aj_Cl 8 c_134 (some .int) false mc ms X T Q J) {o0 : Nat} {x1 : Int32} {q0 : Nat} {nk1 : Nat} {Z : aj_Z} {I : aj_I} {G : aj_G} {C : Nat × Nat} (h0 : x1 < 0 → Q (some (.int (-1))) Z I G) (k0 : Z.2.1 o0 = some (.inl 8)) (h1 : ¬ x1 < 0 → (I o0 3) ≤ x1 → Q (some (.int (-1))) Z I G) (r0 : Z.2.2 o0 0 = .ref q0) (k1 : Z.2.1 q0 = some (.inr (0, nk1))) (h2 : ¬ x1 < 0 → ¬ (I o0 3) ≤ x1 → vp_in x1 nk1) (h3 : ¬ x1 < 0 → ¬ (I o0 3) ≤ x1 → Q (some (.int (I q0 (Int32.toNatClampNeg x1)))) Z I G) : J 0 [some (.ref o0), some (.int x1)] [] Z I G C := by
  refine s_iload_n hJ d_134_0 rfl ?_
  refine s_if_lt (tgt := 21) hJ d_134_1 rfl (fun c0 => ?_) (fun c0 => ?_)
  · skip
    refine s_iconst_m1 hJ d_134_21 ?_
    exact s_iret hJ d_134_22 rfl rfl (h0 c0)
  · skip
    refine s_iload_n hJ d_134_4 rfl ?_
    refine s_aload_n hJ d_134_5 rfl ?_
    refine s_geti hJ lf_8_22 rfl d_134_6 k0 ?_
    refine s_icmp_ge (tgt := 21) hJ d_134_9 rfl (fun c1 => ?_) (fun c1 => ?_)
    · skip
      refine s_iconst_m1 hJ d_134_21 ?_
      exact s_iret hJ d_134_22 rfl rfl (h1 c0 c1)
    · skip
      refine s_aload_n hJ d_134_12 rfl ?_
      refine s_getr hJ lf_8_9 rfl d_134_13 k0 r0 ?_
      refine s_iload_n hJ d_134_16 rfl ?_
      refine s_iald hJ d_134_17 k1 (h2 c0 c1) ?_
      refine s_goto (tgt := 22) hJ d_134_18 rfl ?_
      exact s_iret hJ d_134_22 rfl rfl (h3 c0 c1)
-- ReelOfBoxes$Track.bytesOf(I)J : method 135
theorem d_135_0 : decode c_135 0 = .ok (.iload_n 1, 1) := by decide +kernel
theorem d_135_1 : decode c_135 1 = .ok (.ifCond .lt (20), 3) := by decide +kernel
theorem d_135_4 : decode c_135 4 = .ok (.iload_n 1, 1) := by decide +kernel
theorem d_135_5 : decode c_135 5 = .ok (.aload_n 0, 1) := by decide +kernel
theorem d_135_6 : decode c_135 6 = .ok (.getfield 22, 3) := by decide +kernel
theorem d_135_9 : decode c_135 9 = .ok (.if_icmp .ge (12), 3) := by decide +kernel
theorem d_135_12 : decode c_135 12 = .ok (.aload_n 0, 1) := by decide +kernel
theorem d_135_13 : decode c_135 13 = .ok (.getfield 18, 3) := by decide +kernel
theorem d_135_16 : decode c_135 16 = .ok (.iload_n 1, 1) := by decide +kernel
theorem d_135_17 : decode c_135 17 = .ok (.laload, 1) := by decide +kernel
theorem d_135_18 : decode c_135 18 = .ok (.goto (4), 3) := by decide +kernel
theorem d_135_21 : decode c_135 21 = .ok (.lconst 0, 1) := by decide +kernel
theorem d_135_22 : decode c_135 22 = .ok (.lreturn, 1) := by decide +kernel
set_option maxRecDepth 4000 in
theorem b_135_0 {mc ms : Nat} {X : Option (Nat × (Nat → Int32))} {T : aj_Tt} {Q : aj_Q} {J : aj_J} (hJ : aj_Cl 8 c_135 (some .long) false mc ms X T Q J) {o0 : Nat} {x1 : Int32} {q0 : Nat} {nk1 : Nat} {Z : aj_Z} {I : aj_I} {G : aj_G} {C : Nat × Nat} (h0 : x1 < 0 → Q (some (.long 0)) Z I G) (k0 : Z.2.1 o0 = some (.inl 8)) (h1 : ¬ x1 < 0 → (I o0 3) ≤ x1 → Q (some (.long 0)) Z I G) (r0 : Z.2.2 o0 2 = .ref q0) (k1 : Z.2.1 q0 = some (.inr (1, nk1))) (h2 : ¬ x1 < 0 → ¬ (I o0 3) ≤ x1 → vp_in x1 nk1) (h3 : ¬ x1 < 0 → ¬ (I o0 3) ≤ x1 → Q (some (.long (G q0 (Int32.toNatClampNeg x1)))) Z I G) : J 0 [some (.ref o0), some (.int x1)] [] Z I G C := by
  refine s_iload_n hJ d_135_0 rfl ?_
  refine s_if_lt (tgt := 21) hJ d_135_1 rfl (fun c0 => ?_) (fun c0 => ?_)
  · skip
    refine s_lconst_0 hJ d_135_21 ?_
    exact s_lret hJ d_135_22 rfl (h0 c0)
  · skip
    refine s_iload_n hJ d_135_4 rfl ?_
    refine s_aload_n hJ d_135_5 rfl ?_
    refine s_geti hJ lf_8_22 rfl d_135_6 k0 ?_
    refine s_icmp_ge (tgt := 21) hJ d_135_9 rfl (fun c1 => ?_) (fun c1 => ?_)
    · skip
      refine s_lconst_0 hJ d_135_21 ?_
      exact s_lret hJ d_135_22 rfl (h1 c0 c1)
    · skip
      refine s_aload_n hJ d_135_12 rfl ?_
      refine s_getr hJ lf_8_18 rfl d_135_13 k0 r0 ?_
      refine s_iload_n hJ d_135_16 rfl ?_
      refine s_lald hJ d_135_17 k1 (h2 c0 c1) ?_
      refine s_goto (tgt := 22) hJ d_135_18 rfl ?_
      exact s_lret hJ d_135_22 rfl (h3 c0 c1)
-- ReelOfBoxes$Track.timeOf(I)J : method 136
theorem d_136_0 : decode c_136 0 = .ok (.iload_n 1, 1) := by decide +kernel
theorem d_136_1 : decode c_136 1 = .ok (.ifCond .lt (11), 3) := by decide +kernel
theorem d_136_4 : decode c_136 4 = .ok (.iload_n 1, 1) := by decide +kernel
theorem d_136_5 : decode c_136 5 = .ok (.aload_n 0, 1) := by decide +kernel
theorem d_136_6 : decode c_136 6 = .ok (.getfield 22, 3) := by decide +kernel
theorem d_136_9 : decode c_136 9 = .ok (.if_icmp .le (7), 3) := by decide +kernel
theorem d_136_12 : decode c_136 12 = .ok (.ldc2_w 30, 3) := by decide +kernel
theorem d_136_15 : decode c_136 15 = .ok (.lreturn, 1) := by decide +kernel
theorem d_136_16 : decode c_136 16 = .ok (.lconst 0, 1) := by decide +kernel
theorem d_136_17 : decode c_136 17 = .ok (.lstore_n 2, 1) := by decide +kernel
theorem d_136_18 : decode c_136 18 = .ok (.iconst (0), 1) := by decide +kernel
theorem d_136_19 : decode c_136 19 = .ok (.istore 4, 2) := by decide +kernel
theorem d_136_21 : decode c_136 21 = .ok (.iload 4, 2) := by decide +kernel
theorem d_136_23 : decode c_136 23 = .ok (.iload_n 1, 1) := by decide +kernel
theorem d_136_24 : decode c_136 24 = .ok (.if_icmp .ge (20), 3) := by decide +kernel
theorem d_136_27 : decode c_136 27 = .ok (.lload_n 2, 1) := by decide +kernel
theorem d_136_28 : decode c_136 28 = .ok (.aload_n 0, 1) := by decide +kernel
theorem d_136_29 : decode c_136 29 = .ok (.getfield 9, 3) := by decide +kernel
theorem d_136_32 : decode c_136 32 = .ok (.iload 4, 2) := by decide +kernel
theorem d_136_34 : decode c_136 34 = .ok (.iaload, 1) := by decide +kernel
theorem d_136_35 : decode c_136 35 = .ok (.i2l, 1) := by decide +kernel
theorem d_136_36 : decode c_136 36 = .ok (.ladd, 1) := by decide +kernel
theorem d_136_37 : decode c_136 37 = .ok (.lstore_n 2, 1) := by decide +kernel
theorem d_136_38 : decode c_136 38 = .ok (.iinc 4 (1), 3) := by decide +kernel
theorem d_136_41 : decode c_136 41 = .ok (.goto (-20), 3) := by decide +kernel
theorem d_136_44 : decode c_136 44 = .ok (.lload_n 2, 1) := by decide +kernel
theorem d_136_45 : decode c_136 45 = .ok (.lreturn, 1) := by decide +kernel
set_option maxRecDepth 4000 in
theorem b_136_0 {mc ms : Nat} {X : Option (Nat × (Nat → Int32))} {T : aj_Tt} {Q : aj_Q} {J : aj_J} (hJ : aj_Cl 8 c_136 (some .long) false mc ms X T Q J) {o0 : Nat} {x1 : Int32} {Z : aj_Z} {I : aj_I} {G : aj_G} {C : Nat × Nat} (h0 : x1 < 0 → Q (some (.long (-1))) Z I G) (k0 : Z.2.1 o0 = some (.inl 8)) (h1 : ¬ x1 < 0 → x1 ≤ (I o0 3) → J 21 [some (.ref o0), some (.int x1), some (.long 0), none, some (.int 0)] [] Z I G C) (h2 : ¬ x1 < 0 → ¬ x1 ≤ (I o0 3) → Q (some (.long (-1))) Z I G) : J 0 [some (.ref o0), some (.int x1), none, none, none] [] Z I G C := by
  refine s_iload_n hJ d_136_0 rfl ?_
  refine s_if_lt (tgt := 12) hJ d_136_1 rfl (fun c0 => ?_) (fun c0 => ?_)
  · skip
    refine s_ldc2 hJ ll_8_30 d_136_12 ?_
    exact s_lret hJ d_136_15 rfl (h0 c0)
  · skip
    refine s_iload_n hJ d_136_4 rfl ?_
    refine s_aload_n hJ d_136_5 rfl ?_
    refine s_geti hJ lf_8_22 rfl d_136_6 k0 ?_
    refine s_icmp_le (tgt := 16) hJ d_136_9 rfl (fun c1 => ?_) (fun c1 => ?_)
    · skip
      refine s_lconst_0 hJ d_136_16 ?_
      refine s_lstore_n hJ d_136_17 (Nat.le_of_ble_eq_true rfl) ?_
      refine s_iconst_0 hJ d_136_18 ?_
      refine s_istore hJ d_136_19 (Nat.le_of_ble_eq_true rfl) ?_
      exact h1 c0 c1
    · skip
      refine s_ldc2 hJ ll_8_30 d_136_12 ?_
      exact s_lret hJ d_136_15 rfl (h2 c0 c1)
set_option maxRecDepth 4000 in
theorem b_136_21 {mc ms : Nat} {X : Option (Nat × (Nat → Int32))} {T : aj_Tt} {Q : aj_Q} {J : aj_J} (hJ : aj_Cl 8 c_136 (some .long) false mc ms X T Q J) {o0 : Nat} {x1 : Int32} {x2 : Int64} {w3 : Option Value} {x4 : Int32} {q0 : Nat} {nk1 : Nat} {Z : aj_Z} {I : aj_I} {G : aj_G} {C : Nat × Nat} (h0 : x1 ≤ x4 → Q (some (.long x2)) Z I G) (k0 : Z.2.1 o0 = some (.inl 8)) (r0 : Z.2.2 o0 0 = .ref q0) (k1 : Z.2.1 q0 = some (.inr (0, nk1))) (h1 : ¬ x1 ≤ x4 → vp_in x4 nk1) (h2 : ¬ x1 ≤ x4 → J 21 [some (.ref o0), some (.int x1), some (.long (x2 + (Int32.toInt64 (I q0 (Int32.toNatClampNeg x4))))), none, some (.int (x4 + 1))] [] Z I G C) : J 21 [some (.ref o0), some (.int x1), some (.long x2), w3, some (.int x4)] [] Z I G C := by
  refine s_iload hJ d_136_21 rfl ?_
  refine s_iload_n hJ d_136_23 rfl ?_
  refine s_icmp_ge (tgt := 44) hJ d_136_24 rfl (fun c0 => ?_) (fun c0 => ?_)
  · skip
    refine s_lload_n hJ d_136_44 rfl ?_
    exact s_lret hJ d_136_45 rfl (h0 c0)
  · skip
    refine s_lload_n hJ d_136_27 rfl ?_
    refine s_aload_n hJ d_136_28 rfl ?_
    refine s_getr hJ lf_8_9 rfl d_136_29 k0 r0 ?_
    refine s_iload hJ d_136_32 rfl ?_
    refine s_iald hJ d_136_34 k1 (h1 c0) ?_
    refine s_i2l hJ d_136_35 ?_
    refine s_ladd hJ d_136_36 ?_
    refine s_lstore_n hJ d_136_37 (Nat.le_of_ble_eq_true rfl) ?_
    refine s_iinc (v := 1) hJ d_136_38 rfl (by decide) ?_
    refine s_goto (tgt := 21) hJ d_136_41 rfl ?_
    exact h2 c0
-- ReelOfBoxes$Track.lowestBytes(JI)J : method 137
theorem d_137_0 : decode c_137 0 = .ok (.iload_n 2, 1) := by decide +kernel
theorem d_137_1 : decode c_137 1 = .ok (.bipush (8), 2) := by decide +kernel
theorem d_137_3 : decode c_137 3 = .ok (.if_icmp .lt (7), 3) := by decide +kernel
theorem d_137_6 : decode c_137 6 = .ok (.lload_n 0, 1) := by decide +kernel
theorem d_137_7 : decode c_137 7 = .ok (.goto (13), 3) := by decide +kernel
theorem d_137_10 : decode c_137 10 = .ok (.lload_n 0, 1) := by decide +kernel
theorem d_137_11 : decode c_137 11 = .ok (.lconst 1, 1) := by decide +kernel
theorem d_137_12 : decode c_137 12 = .ok (.bipush (8), 2) := by decide +kernel
theorem d_137_14 : decode c_137 14 = .ok (.iload_n 2, 1) := by decide +kernel
theorem d_137_15 : decode c_137 15 = .ok (.imul, 1) := by decide +kernel
theorem d_137_16 : decode c_137 16 = .ok (.lshl, 1) := by decide +kernel
theorem d_137_17 : decode c_137 17 = .ok (.lconst 1, 1) := by decide +kernel
theorem d_137_18 : decode c_137 18 = .ok (.lsub, 1) := by decide +kernel
theorem d_137_19 : decode c_137 19 = .ok (.land, 1) := by decide +kernel
theorem d_137_20 : decode c_137 20 = .ok (.lreturn, 1) := by decide +kernel
set_option maxRecDepth 4000 in
theorem b_137_0 {mc ms : Nat} {X : Option (Nat × (Nat → Int32))} {T : aj_Tt} {Q : aj_Q} {J : aj_J} (hJ : aj_Cl 8 c_137 (some .long) false mc ms X T Q J) {x0 : Int64} {x2 : Int32} {Z : aj_Z} {I : aj_I} {G : aj_G} {C : Nat × Nat} (h0 : x2 < 8 → Q (some (.long (x0 &&& ((1 <<< (Int32.toInt64 (8 * x2) &&& 63)) - 1)))) Z I G) (h1 : ¬ x2 < 8 → Q (some (.long x0)) Z I G) : J 0 [some (.long x0), none, some (.int x2)] [] Z I G C := by
  refine s_iload_n hJ d_137_0 rfl ?_
  refine s_bipush (v := 8) hJ d_137_1 (by decide) ?_
  refine s_icmp_lt (tgt := 10) hJ d_137_3 rfl (fun c0 => ?_) (fun c0 => ?_)
  · skip
    refine s_lload_n hJ d_137_10 rfl ?_
    refine s_lconst_1 hJ d_137_11 ?_
    refine s_bipush (v := 8) hJ d_137_12 (by decide) ?_
    refine s_iload_n hJ d_137_14 rfl ?_
    refine s_imul hJ d_137_15 ?_
    refine s_lshl hJ d_137_16 ?_
    refine s_lconst_1 hJ d_137_17 ?_
    refine s_lsub hJ d_137_18 ?_
    refine s_land hJ d_137_19 ?_
    exact s_lret hJ d_137_20 rfl (h0 c0)
  · skip
    refine s_lload_n hJ d_137_6 rfl ?_
    refine s_goto (tgt := 20) hJ d_137_7 rfl ?_
    exact s_lret hJ d_137_20 rfl (h1 c0)
-- ReelOfBoxes$Reel.<init>()V : method 110
theorem d_110_0 : decode c_110 0 = .ok (.aload_n 0, 1) := by decide +kernel
theorem d_110_1 : decode c_110 1 = .ok (.invokespecial 3, 3) := by decide +kernel
theorem d_110_4 : decode c_110 4 = .ok (.aload_n 0, 1) := by decide +kernel
theorem d_110_5 : decode c_110 5 = .ok (.iconst (3), 1) := by decide +kernel
theorem d_110_6 : decode c_110 6 = .ok (.anewarray 9, 3) := by decide +kernel
theorem d_110_9 : decode c_110 9 = .ok (.putfield 11, 3) := by decide +kernel
theorem d_110_12 : decode c_110 12 = .ok (.aload_n 0, 1) := by decide +kernel
theorem d_110_13 : decode c_110 13 = .ok (.iconst (0), 1) := by decide +kernel
theorem d_110_14 : decode c_110 14 = .ok (.putfield 17, 3) := by decide +kernel
theorem d_110_17 : decode c_110 17 = .ok (.iconst (0), 1) := by decide +kernel
theorem d_110_18 : decode c_110 18 = .ok (.istore_n 1, 1) := by decide +kernel
theorem d_110_19 : decode c_110 19 = .ok (.iload_n 1, 1) := by decide +kernel
theorem d_110_20 : decode c_110 20 = .ok (.iconst (3), 1) := by decide +kernel
theorem d_110_21 : decode c_110 21 = .ok (.if_icmp .ge (22), 3) := by decide +kernel
theorem d_110_24 : decode c_110 24 = .ok (.aload_n 0, 1) := by decide +kernel
theorem d_110_25 : decode c_110 25 = .ok (.getfield 11, 3) := by decide +kernel
theorem d_110_28 : decode c_110 28 = .ok (.iload_n 1, 1) := by decide +kernel
theorem d_110_29 : decode c_110 29 = .ok (.new 9, 3) := by decide +kernel
theorem d_110_32 : decode c_110 32 = .ok (.dup, 1) := by decide +kernel
theorem d_110_33 : decode c_110 33 = .ok (.invokespecial 21, 3) := by decide +kernel
theorem d_110_36 : decode c_110 36 = .ok (.aastore, 1) := by decide +kernel
theorem d_110_37 : decode c_110 37 = .ok (.iinc 1 (1), 3) := by decide +kernel
theorem d_110_40 : decode c_110 40 = .ok (.goto (-21), 3) := by decide +kernel
theorem d_110_43 : decode c_110 43 = .ok (.return_, 1) := by decide +kernel
-- ReelOfBoxes$Reel.trackCount()I : method 111
theorem d_111_0 : decode c_111 0 = .ok (.aload_n 0, 1) := by decide +kernel
theorem d_111_1 : decode c_111 1 = .ok (.getfield 17, 3) := by decide +kernel
theorem d_111_4 : decode c_111 4 = .ok (.ireturn, 1) := by decide +kernel
set_option maxRecDepth 4000 in
theorem b_111_0 {mc ms : Nat} {X : Option (Nat × (Nat → Int32))} {T : aj_Tt} {Q : aj_Q} {J : aj_J} (hJ : aj_Cl 6 c_111 (some .int) false mc ms X T Q J) {o0 : Nat} {Z : aj_Z} {I : aj_I} {G : aj_G} {C : Nat × Nat} (k0 : Z.2.1 o0 = some (.inl 6)) (h0 : Q (some (.int (I o0 1))) Z I G) : J 0 [some (.ref o0)] [] Z I G C := by
  refine s_aload_n hJ d_111_0 rfl ?_
  refine s_geti hJ lf_6_17 rfl d_111_1 k0 ?_
  exact s_iret hJ d_111_4 rfl rfl (h0)
-- ReelOfBoxes$Reel.find(I)LReelOfBoxes$Track; : method 112
theorem d_112_0 : decode c_112 0 = .ok (.iload_n 1, 1) := by decide +kernel
theorem d_112_1 : decode c_112 1 = .ok (.ifCond .lt (20), 3) := by decide +kernel
theorem d_112_4 : decode c_112 4 = .ok (.iload_n 1, 1) := by decide +kernel
theorem d_112_5 : decode c_112 5 = .ok (.aload_n 0, 1) := by decide +kernel
theorem d_112_6 : decode c_112 6 = .ok (.getfield 17, 3) := by decide +kernel
theorem d_112_9 : decode c_112 9 = .ok (.if_icmp .ge (12), 3) := by decide +kernel
theorem d_112_12 : decode c_112 12 = .ok (.aload_n 0, 1) := by decide +kernel
theorem d_112_13 : decode c_112 13 = .ok (.getfield 11, 3) := by decide +kernel
theorem d_112_16 : decode c_112 16 = .ok (.iload_n 1, 1) := by decide +kernel
theorem d_112_17 : decode c_112 17 = .ok (.aaload, 1) := by decide +kernel
theorem d_112_18 : decode c_112 18 = .ok (.goto (4), 3) := by decide +kernel
theorem d_112_21 : decode c_112 21 = .ok (.aconst_null, 1) := by decide +kernel
theorem d_112_22 : decode c_112 22 = .ok (.areturn, 1) := by decide +kernel
set_option maxRecDepth 4000 in
theorem b_112_0 {mc ms : Nat} {X : Option (Nat × (Nat → Int32))} {T : aj_Tt} {Q : aj_Q} {J : aj_J} (hJ : aj_Cl 6 c_112 (some (.object "ReelOfBoxes$Track")) false mc ms X T Q J) {o0 : Nat} {x1 : Int32} {q0 : Nat} {nk1 : Nat} {q1 : Nat} {Z : aj_Z} {I : aj_I} {G : aj_G} {C : Nat × Nat} (h0 : x1 < 0 → Q (some (.null)) Z I G) (k0 : Z.2.1 o0 = some (.inl 6)) (h1 : ¬ x1 < 0 → (I o0 1) ≤ x1 → Q (some (.null)) Z I G) (r0 : Z.2.2 o0 0 = .ref q0) (k1 : Z.2.1 q0 = some (.inr (5, nk1))) (h2 : ¬ x1 < 0 → ¬ (I o0 1) ≤ x1 → vp_in x1 nk1) (h3 : ¬ x1 < 0 → ¬ (I o0 1) ≤ x1 → Z.2.2 q0 (Int32.toNatClampNeg x1) = .ref q1) (h4 : ¬ x1 < 0 → ¬ (I o0 1) ≤ x1 → Q (some (.ref q1)) Z I G) : J 0 [some (.ref o0), some (.int x1)] [] Z I G C := by
  refine s_iload_n hJ d_112_0 rfl ?_
  refine s_if_lt (tgt := 21) hJ d_112_1 rfl (fun c0 => ?_) (fun c0 => ?_)
  · skip
    refine s_null hJ d_112_21 ?_
    exact s_aret hJ d_112_22 rfl (Or.inl rfl) (h0 c0)
  · skip
    refine s_iload_n hJ d_112_4 rfl ?_
    refine s_aload_n hJ d_112_5 rfl ?_
    refine s_geti hJ lf_6_17 rfl d_112_6 k0 ?_
    refine s_icmp_ge (tgt := 21) hJ d_112_9 rfl (fun c1 => ?_) (fun c1 => ?_)
    · skip
      refine s_null hJ d_112_21 ?_
      exact s_aret hJ d_112_22 rfl (Or.inl rfl) (h1 c0 c1)
    · skip
      refine s_aload_n hJ d_112_12 rfl ?_
      refine s_getr hJ lf_6_11 rfl d_112_13 k0 r0 ?_
      refine s_iload_n hJ d_112_16 rfl ?_
      refine s_aald hJ d_112_17 k1 tc_5 (h2 c0 c1) (h3 c0 c1) ?_
      refine s_goto (tgt := 22) hJ d_112_18 rfl ?_
      exact s_aret hJ d_112_22 rfl (Or.inr ⟨_, rfl⟩) (h4 c0 c1)
-- ReelOfBoxes$Reel.openTrack()I : method 113
theorem d_113_0 : decode c_113 0 = .ok (.aload_n 0, 1) := by decide +kernel
theorem d_113_1 : decode c_113 1 = .ok (.getfield 17, 3) := by decide +kernel
theorem d_113_4 : decode c_113 4 = .ok (.iconst (3), 1) := by decide +kernel
theorem d_113_5 : decode c_113 5 = .ok (.if_icmp .lt (5), 3) := by decide +kernel
theorem d_113_8 : decode c_113 8 = .ok (.iconst (-1), 1) := by decide +kernel
theorem d_113_9 : decode c_113 9 = .ok (.ireturn, 1) := by decide +kernel
theorem d_113_10 : decode c_113 10 = .ok (.aload_n 0, 1) := by decide +kernel
theorem d_113_11 : decode c_113 11 = .ok (.getfield 11, 3) := by decide +kernel
theorem d_113_14 : decode c_113 14 = .ok (.aload_n 0, 1) := by decide +kernel
theorem d_113_15 : decode c_113 15 = .ok (.getfield 17, 3) := by decide +kernel
theorem d_113_18 : decode c_113 18 = .ok (.aaload, 1) := by decide +kernel
theorem d_113_19 : decode c_113 19 = .ok (.invokevirtual 22, 3) := by decide +kernel
theorem d_113_22 : decode c_113 22 = .ok (.aload_n 0, 1) := by decide +kernel
theorem d_113_23 : decode c_113 23 = .ok (.dup, 1) := by decide +kernel
theorem d_113_24 : decode c_113 24 = .ok (.getfield 17, 3) := by decide +kernel
theorem d_113_27 : decode c_113 27 = .ok (.iconst (1), 1) := by decide +kernel
theorem d_113_28 : decode c_113 28 = .ok (.iadd, 1) := by decide +kernel
theorem d_113_29 : decode c_113 29 = .ok (.putfield 17, 3) := by decide +kernel
theorem d_113_32 : decode c_113 32 = .ok (.aload_n 0, 1) := by decide +kernel
theorem d_113_33 : decode c_113 33 = .ok (.getfield 17, 3) := by decide +kernel
theorem d_113_36 : decode c_113 36 = .ok (.iconst (1), 1) := by decide +kernel
theorem d_113_37 : decode c_113 37 = .ok (.isub, 1) := by decide +kernel
theorem d_113_38 : decode c_113 38 = .ok (.ireturn, 1) := by decide +kernel
set_option maxRecDepth 4000 in
theorem b_113_0 {mc ms : Nat} {X : Option (Nat × (Nat → Int32))} {T : aj_Tt} {Q : aj_Q} {J : aj_J} (hJ : aj_Cl 6 c_113 (some .int) false mc ms X T Q J) {o0 : Nat} {q0 : Nat} {nk1 : Nat} {q1 : Nat} {Z : aj_Z} {I : aj_I} {G : aj_G} {C : Nat × Nat} (k0 : Z.2.1 o0 = some (.inl 6)) (r0 : Z.2.2 o0 0 = .ref q0) (k1 : Z.2.1 q0 = some (.inr (5, nk1))) (h0 : (I o0 1) < 3 → vp_in (I o0 1) nk1) (h1 : (I o0 1) < 3 → Z.2.2 q0 (Int32.toNatClampNeg (I o0 1)) = .ref q1) (k3 : Z.2.1 q1 = some (.inl 8)) (h2 : (I o0 1) < 3 → T 0 0 131 [.ref q1] Z I G (fun r Z1 I1 G1 => J 22 [some (.ref o0)] (r.toList ++ []) Z1 I1 G1 C)) (h3 : ¬ (I o0 1) < 3 → Q (some (.int (-1))) Z I G) : J 0 [some (.ref o0)] [] Z I G C := by
  refine s_aload_n hJ d_113_0 rfl ?_
  refine s_geti hJ lf_6_17 rfl d_113_1 k0 ?_
  refine s_iconst_3 hJ d_113_4 ?_
  refine s_icmp_lt (tgt := 10) hJ d_113_5 rfl (fun c0 => ?_) (fun c0 => ?_)
  · skip
    refine s_aload_n hJ d_113_10 rfl ?_
    refine s_getr hJ lf_6_11 rfl d_113_11 k0 r0 ?_
    refine s_aload_n hJ d_113_14 rfl ?_
    refine s_geti hJ lf_6_17 rfl d_113_15 k0 ?_
    refine s_aald hJ d_113_18 k1 tc_5 (h0 c0) (h1 c0) ?_
    exact s_V0 hJ lm_6_22 d_113_19 (Nat.le_of_ble_eq_true rfl) k3 (h2 c0)
  · skip
    refine s_iconst_m1 hJ d_113_8 ?_
    exact s_iret hJ d_113_9 rfl rfl (h3 c0)
set_option maxRecDepth 4000 in
theorem b_113_22 {mc ms : Nat} {X : Option (Nat × (Nat → Int32))} {T : aj_Tt} {Q : aj_Q} {J : aj_J} (hJ : aj_Cl 6 c_113 (some .int) false mc ms X T Q J) {o0 : Nat} {Z : aj_Z} {I : aj_I} {G : aj_G} {C : Nat × Nat} (k0 : Z.2.1 o0 = some (.inl 6)) (h0 : Q (some (.int (((aj_u2 I o0 1 ((I o0 1) + 1)) o0 1) - 1))) Z (aj_u2 I o0 1 ((I o0 1) + 1)) G) : J 22 [some (.ref o0)] [] Z I G C := by
  refine s_aload_n hJ d_113_22 rfl ?_
  refine s_dup hJ d_113_23 rfl ?_
  refine s_geti hJ lf_6_17 rfl d_113_24 k0 ?_
  refine s_iconst_1 hJ d_113_27 ?_
  refine s_iadd hJ d_113_28 ?_
  refine s_puti hJ lf_6_17 rfl d_113_29 k0 ?_
  refine s_aload_n hJ d_113_32 rfl ?_
  refine s_geti hJ lf_6_17 rfl d_113_33 k0 ?_
  refine s_iconst_1 hJ d_113_36 ?_
  refine s_isub hJ d_113_37 ?_
  exact s_iret hJ d_113_38 rfl rfl (h0)
-- ReelOfBoxes$Reel.makeEmpty()I : method 114
theorem d_114_0 : decode c_114 0 = .ok (.aload_n 0, 1) := by decide +kernel
theorem d_114_1 : decode c_114 1 = .ok (.getfield 17, 3) := by decide +kernel
theorem d_114_4 : decode c_114 4 = .ok (.istore_n 1, 1) := by decide +kernel
theorem d_114_5 : decode c_114 5 = .ok (.aload_n 0, 1) := by decide +kernel
theorem d_114_6 : decode c_114 6 = .ok (.iconst (0), 1) := by decide +kernel
theorem d_114_7 : decode c_114 7 = .ok (.putfield 17, 3) := by decide +kernel
theorem d_114_10 : decode c_114 10 = .ok (.iload_n 1, 1) := by decide +kernel
theorem d_114_11 : decode c_114 11 = .ok (.ireturn, 1) := by decide +kernel
set_option maxRecDepth 4000 in
theorem b_114_0 {mc ms : Nat} {X : Option (Nat × (Nat → Int32))} {T : aj_Tt} {Q : aj_Q} {J : aj_J} (hJ : aj_Cl 6 c_114 (some .int) false mc ms X T Q J) {o0 : Nat} {Z : aj_Z} {I : aj_I} {G : aj_G} {C : Nat × Nat} (k0 : Z.2.1 o0 = some (.inl 6)) (h0 : Q (some (.int (I o0 1))) Z (aj_u2 I o0 1 0) G) : J 0 [some (.ref o0), none] [] Z I G C := by
  refine s_aload_n hJ d_114_0 rfl ?_
  refine s_geti hJ lf_6_17 rfl d_114_1 k0 ?_
  refine s_istore_n hJ d_114_4 (Nat.le_of_ble_eq_true rfl) ?_
  refine s_aload_n hJ d_114_5 rfl ?_
  refine s_iconst_0 hJ d_114_6 ?_
  refine s_puti hJ lf_6_17 rfl d_114_7 k0 ?_
  refine s_iload_n hJ d_114_10 rfl ?_
  exact s_iret hJ d_114_11 rfl rfl (h0)
-- ReelOfBoxes$Table.<init>(LReelOfBoxes$ByteRow;)V : method 115
theorem d_115_0 : decode c_115 0 = .ok (.aload_n 0, 1) := by decide +kernel
theorem d_115_1 : decode c_115 1 = .ok (.invokespecial 3, 3) := by decide +kernel
theorem d_115_4 : decode c_115 4 = .ok (.aload_n 0, 1) := by decide +kernel
theorem d_115_5 : decode c_115 5 = .ok (.iconst (-1), 1) := by decide +kernel
theorem d_115_6 : decode c_115 6 = .ok (.putfield 9, 3) := by decide +kernel
theorem d_115_9 : decode c_115 9 = .ok (.aload_n 0, 1) := by decide +kernel
theorem d_115_10 : decode c_115 10 = .ok (.iconst (0), 1) := by decide +kernel
theorem d_115_11 : decode c_115 11 = .ok (.putfield 15, 3) := by decide +kernel
theorem d_115_14 : decode c_115 14 = .ok (.aload_n 0, 1) := by decide +kernel
theorem d_115_15 : decode c_115 15 = .ok (.iconst (0), 1) := by decide +kernel
theorem d_115_16 : decode c_115 16 = .ok (.putfield 18, 3) := by decide +kernel
theorem d_115_19 : decode c_115 19 = .ok (.aload_n 0, 1) := by decide +kernel
theorem d_115_20 : decode c_115 20 = .ok (.iconst (0), 1) := by decide +kernel
theorem d_115_21 : decode c_115 21 = .ok (.putfield 21, 3) := by decide +kernel
theorem d_115_24 : decode c_115 24 = .ok (.aload_n 0, 1) := by decide +kernel
theorem d_115_25 : decode c_115 25 = .ok (.bipush (8), 2) := by decide +kernel
theorem d_115_27 : decode c_115 27 = .ok (.putfield 24, 3) := by decide +kernel
theorem d_115_30 : decode c_115 30 = .ok (.aload_n 0, 1) := by decide +kernel
theorem d_115_31 : decode c_115 31 = .ok (.iconst (4), 1) := by decide +kernel
theorem d_115_32 : decode c_115 32 = .ok (.putfield 27, 3) := by decide +kernel
theorem d_115_35 : decode c_115 35 = .ok (.aload_n 0, 1) := by decide +kernel
theorem d_115_36 : decode c_115 36 = .ok (.aload_n 1, 1) := by decide +kernel
theorem d_115_37 : decode c_115 37 = .ok (.putfield 30, 3) := by decide +kernel
theorem d_115_40 : decode c_115 40 = .ok (.return_, 1) := by decide +kernel
-- ReelOfBoxes$Table.forget()V : method 116
theorem d_116_0 : decode c_116 0 = .ok (.aload_n 0, 1) := by decide +kernel
theorem d_116_1 : decode c_116 1 = .ok (.iconst (-1), 1) := by decide +kernel
theorem d_116_2 : decode c_116 2 = .ok (.putfield 9, 3) := by decide +kernel
theorem d_116_5 : decode c_116 5 = .ok (.return_, 1) := by decide +kernel
set_option maxRecDepth 4000 in
theorem b_116_0 {mc ms : Nat} {X : Option (Nat × (Nat → Int32))} {T : aj_Tt} {Q : aj_Q} {J : aj_J} (hJ : aj_Cl 7 c_116 (none) false mc ms X T Q J) {o0 : Nat} {Z : aj_Z} {I : aj_I} {G : aj_G} {C : Nat × Nat} (k0 : Z.2.1 o0 = some (.inl 7)) (h0 : Q none Z (aj_u2 I o0 1 (-1)) G) : J 0 [some (.ref o0)] [] Z I G C := by
  refine s_aload_n hJ d_116_0 rfl ?_
  refine s_iconst_m1 hJ d_116_1 ?_
  refine s_puti hJ lf_7_9 rfl d_116_2 k0 ?_
  exact s_vret hJ d_116_5 rfl (h0)
-- ReelOfBoxes$Table.isFound()Z : method 117
theorem d_117_0 : decode c_117 0 = .ok (.aload_n 0, 1) := by decide +kernel
theorem d_117_1 : decode c_117 1 = .ok (.getfield 9, 3) := by decide +kernel
theorem d_117_4 : decode c_117 4 = .ok (.iconst (-1), 1) := by decide +kernel
theorem d_117_5 : decode c_117 5 = .ok (.if_icmp .eq (7), 3) := by decide +kernel
theorem d_117_8 : decode c_117 8 = .ok (.iconst (1), 1) := by decide +kernel
theorem d_117_9 : decode c_117 9 = .ok (.goto (4), 3) := by decide +kernel
theorem d_117_12 : decode c_117 12 = .ok (.iconst (0), 1) := by decide +kernel
theorem d_117_13 : decode c_117 13 = .ok (.ireturn, 1) := by decide +kernel
set_option maxRecDepth 4000 in
theorem b_117_0 {mc ms : Nat} {X : Option (Nat × (Nat → Int32))} {T : aj_Tt} {Q : aj_Q} {J : aj_J} (hJ : aj_Cl 7 c_117 (some .boolean) false mc ms X T Q J) {o0 : Nat} {Z : aj_Z} {I : aj_I} {G : aj_G} {C : Nat × Nat} (k0 : Z.2.1 o0 = some (.inl 7)) (h0 : (I o0 1) = (-1) → Q (some (.int 0)) Z I G) (h1 : ¬ (I o0 1) = (-1) → Q (some (.int 1)) Z I G) : J 0 [some (.ref o0)] [] Z I G C := by
  refine s_aload_n hJ d_117_0 rfl ?_
  refine s_geti hJ lf_7_9 rfl d_117_1 k0 ?_
  refine s_iconst_m1 hJ d_117_4 ?_
  refine s_icmp_eq (tgt := 12) hJ d_117_5 rfl (fun c0 => ?_) (fun c0 => ?_)
  · skip
    refine s_iconst_0 hJ d_117_12 ?_
    exact s_iret hJ d_117_13 rfl rfl (h0 c0)
  · skip
    refine s_iconst_1 hJ d_117_8 ?_
    refine s_goto (tgt := 13) hJ d_117_9 rfl ?_
    exact s_iret hJ d_117_13 rfl rfl (h1 c0)
-- ReelOfBoxes$Table.find(IIII)V : method 118
theorem d_118_0 : decode c_118 0 = .ok (.aload_n 0, 1) := by decide +kernel
theorem d_118_1 : decode c_118 1 = .ok (.iload_n 1, 1) := by decide +kernel
theorem d_118_2 : decode c_118 2 = .ok (.putfield 9, 3) := by decide +kernel
theorem d_118_5 : decode c_118 5 = .ok (.aload_n 0, 1) := by decide +kernel
theorem d_118_6 : decode c_118 6 = .ok (.iload_n 2, 1) := by decide +kernel
theorem d_118_7 : decode c_118 7 = .ok (.putfield 15, 3) := by decide +kernel
theorem d_118_10 : decode c_118 10 = .ok (.aload_n 0, 1) := by decide +kernel
theorem d_118_11 : decode c_118 11 = .ok (.iload_n 3, 1) := by decide +kernel
theorem d_118_12 : decode c_118 12 = .ok (.putfield 18, 3) := by decide +kernel
theorem d_118_15 : decode c_118 15 = .ok (.aload_n 0, 1) := by decide +kernel
theorem d_118_16 : decode c_118 16 = .ok (.iload 4, 2) := by decide +kernel
theorem d_118_18 : decode c_118 18 = .ok (.putfield 21, 3) := by decide +kernel
theorem d_118_21 : decode c_118 21 = .ok (.aload_n 0, 1) := by decide +kernel
theorem d_118_22 : decode c_118 22 = .ok (.aload_n 0, 1) := by decide +kernel
theorem d_118_23 : decode c_118 23 = .ok (.getfield 15, 3) := by decide +kernel
theorem d_118_26 : decode c_118 26 = .ok (.ldc 34, 2) := by decide +kernel
theorem d_118_28 : decode c_118 28 = .ok (.if_icmp .ne (8), 3) := by decide +kernel
theorem d_118_31 : decode c_118 31 = .ok (.bipush (12), 2) := by decide +kernel
theorem d_118_33 : decode c_118 33 = .ok (.goto (5), 3) := by decide +kernel
theorem d_118_36 : decode c_118 36 = .ok (.bipush (8), 2) := by decide +kernel
theorem d_118_38 : decode c_118 38 = .ok (.putfield 24, 3) := by decide +kernel
theorem d_118_41 : decode c_118 41 = .ok (.aload_n 0, 1) := by decide +kernel
theorem d_118_42 : decode c_118 42 = .ok (.aload_n 0, 1) := by decide +kernel
theorem d_118_43 : decode c_118 43 = .ok (.getfield 15, 3) := by decide +kernel
theorem d_118_46 : decode c_118 46 = .ok (.invokestatic 35, 3) := by decide +kernel
theorem d_118_49 : decode c_118 49 = .ok (.putfield 27, 3) := by decide +kernel
theorem d_118_52 : decode c_118 52 = .ok (.return_, 1) := by decide +kernel
set_option maxRecDepth 4000 in
theorem b_118_0 {mc ms : Nat} {X : Option (Nat × (Nat → Int32))} {T : aj_Tt} {Q : aj_Q} {J : aj_J} (hJ : aj_Cl 7 c_118 (none) false mc ms X T Q J) {o0 : Nat} {x1 : Int32} {x2 : Int32} {x3 : Int32} {x4 : Int32} {Z : aj_Z} {I : aj_I} {G : aj_G} {C : Nat × Nat} (k0 : Z.2.1 o0 = some (.inl 7)) (h0 : ¬ ((aj_u2 (aj_u2 (aj_u2 (aj_u2 I o0 1 x1) o0 2 x2) o0 3 x3) o0 4 x4) o0 2) = 1937011578 → T 0 0 119 [.int ((aj_u2 (aj_u2 (aj_u2 (aj_u2 (aj_u2 I o0 1 x1) o0 2 x2) o0 3 x3) o0 4 x4) o0 5 8) o0 2)] Z (aj_u2 (aj_u2 (aj_u2 (aj_u2 (aj_u2 I o0 1 x1) o0 2 x2) o0 3 x3) o0 4 x4) o0 5 8) G (fun r Z1 I1 G1 => J 49 [some (.ref o0), some (.int x1), some (.int x2), some (.int x3), some (.int x4)] (r.toList ++ [.ref o0]) Z1 I1 G1 C)) (h1 : ((aj_u2 (aj_u2 (aj_u2 (aj_u2 I o0 1 x1) o0 2 x2) o0 3 x3) o0 4 x4) o0 2) = 1937011578 → T 0 0 119 [.int ((aj_u2 (aj_u2 (aj_u2 (aj_u2 (aj_u2 I o0 1 x1) o0 2 x2) o0 3 x3) o0 4 x4) o0 5 12) o0 2)] Z (aj_u2 (aj_u2 (aj_u2 (aj_u2 (aj_u2 I o0 1 x1) o0 2 x2) o0 3 x3) o0 4 x4) o0 5 12) G (fun r Z1 I1 G1 => J 49 [some (.ref o0), some (.int x1), some (.int x2), some (.int x3), some (.int x4)] (r.toList ++ [.ref o0]) Z1 I1 G1 C)) : J 0 [some (.ref o0), some (.int x1), some (.int x2), some (.int x3), some (.int x4)] [] Z I G C := by
  refine s_aload_n hJ d_118_0 rfl ?_
  refine s_iload_n hJ d_118_1 rfl ?_
  refine s_puti hJ lf_7_9 rfl d_118_2 k0 ?_
  refine s_aload_n hJ d_118_5 rfl ?_
  refine s_iload_n hJ d_118_6 rfl ?_
  refine s_puti hJ lf_7_15 rfl d_118_7 k0 ?_
  refine s_aload_n hJ d_118_10 rfl ?_
  refine s_iload_n hJ d_118_11 rfl ?_
  refine s_puti hJ lf_7_18 rfl d_118_12 k0 ?_
  refine s_aload_n hJ d_118_15 rfl ?_
  refine s_iload hJ d_118_16 rfl ?_
  refine s_puti hJ lf_7_21 rfl d_118_18 k0 ?_
  refine s_aload_n hJ d_118_21 rfl ?_
  refine s_aload_n hJ d_118_22 rfl ?_
  refine s_geti hJ lf_7_15 rfl d_118_23 k0 ?_
  refine s_ldc hJ lc_7_34 d_118_26 ?_
  refine s_icmp_ne (tgt := 36) hJ d_118_28 rfl (fun c0 => ?_) (fun c0 => ?_)
  · skip
    refine s_bipush (v := 8) hJ d_118_36 (by decide) ?_
    refine s_puti hJ lf_7_24 rfl d_118_38 k0 ?_
    refine s_aload_n hJ d_118_41 rfl ?_
    refine s_aload_n hJ d_118_42 rfl ?_
    refine s_geti hJ lf_7_15 rfl d_118_43 k0 ?_
    exact s_S1 hJ lm_7_35 d_118_46 (Nat.le_of_ble_eq_true rfl) (h0 c0)
  · skip
    refine s_bipush (v := 12) hJ d_118_31 (by decide) ?_
    refine s_goto (tgt := 38) hJ d_118_33 rfl ?_
    refine s_puti hJ lf_7_24 rfl d_118_38 k0 ?_
    refine s_aload_n hJ d_118_41 rfl ?_
    refine s_aload_n hJ d_118_42 rfl ?_
    refine s_geti hJ lf_7_15 rfl d_118_43 k0 ?_
    exact s_S1 hJ lm_7_35 d_118_46 (Nat.le_of_ble_eq_true rfl) (h1 c0)
set_option maxRecDepth 4000 in
theorem b_118_49 {mc ms : Nat} {X : Option (Nat × (Nat → Int32))} {T : aj_Tt} {Q : aj_Q} {J : aj_J} (hJ : aj_Cl 7 c_118 (none) false mc ms X T Q J) {w0 : Option Value} {w1 : Option Value} {w2 : Option Value} {w3 : Option Value} {w4 : Option Value} {s0 : Int32} {s1 : Nat} {Z : aj_Z} {I : aj_I} {G : aj_G} {C : Nat × Nat} (k0 : Z.2.1 s1 = some (.inl 7)) (h0 : Q none Z (aj_u2 I s1 6 s0) G) : J 49 [w0, w1, w2, w3, w4] [.int s0, .ref s1] Z I G C := by
  refine s_puti hJ lf_7_27 rfl d_118_49 k0 ?_
  exact s_vret hJ d_118_52 rfl (h0)
-- ReelOfBoxes$Table.widthOfEntry(I)I : method 119
theorem d_119_0 : decode c_119 0 = .ok (.iload_n 0, 1) := by decide +kernel
theorem d_119_1 : decode c_119 1 = .ok (.lookupswitch (41) #[((1668232756), (38)), ((1937011555), (35)), ((1937011827), (38))], 35) := by decide +kernel
theorem d_119_36 : decode c_119 36 = .ok (.bipush (12), 2) := by decide +kernel
theorem d_119_38 : decode c_119 38 = .ok (.ireturn, 1) := by decide +kernel
theorem d_119_39 : decode c_119 39 = .ok (.bipush (8), 2) := by decide +kernel
theorem d_119_41 : decode c_119 41 = .ok (.ireturn, 1) := by decide +kernel
theorem d_119_42 : decode c_119 42 = .ok (.iconst (4), 1) := by decide +kernel
theorem d_119_43 : decode c_119 43 = .ok (.ireturn, 1) := by decide +kernel
set_option maxRecDepth 4000 in
theorem b_119_0 {mc ms : Nat} {X : Option (Nat × (Nat → Int32))} {T : aj_Tt} {Q : aj_Q} {J : aj_J} (hJ : aj_Cl 7 c_119 (some .int) false mc ms X T Q J) {x0 : Int32} {Z : aj_Z} {I : aj_I} {G : aj_G} {C : Nat × Nat} (h0 : x0 = 1668232756 → Q (some (.int 8)) Z I G) (h1 : ¬ x0 = 1668232756 → x0 = 1937011555 → Q (some (.int 12)) Z I G) (h2 : ¬ x0 = 1668232756 → ¬ x0 = 1937011555 → x0 = 1937011827 → Q (some (.int 8)) Z I G) (h3 : ¬ x0 = 1668232756 → ¬ x0 = 1937011555 → ¬ x0 = 1937011827 → Q (some (.int 4)) Z I G) : J 0 [some (.int x0)] [] Z I G C := by
  refine s_iload_n hJ d_119_0 rfl ?_
  by_cases c0 : x0 = 1668232756
  · skip
    refine s_lookup (off := 38) (tgt := 39) hJ d_119_1 (by decide) (by rw [c0]; decide) rfl ?_
    refine s_bipush (v := 8) hJ d_119_39 (by decide) ?_
    exact s_iret hJ d_119_41 rfl rfl (h0 c0)
  by_cases c1 : x0 = 1937011555
  · skip
    refine s_lookup (off := 35) (tgt := 36) hJ d_119_1 (by decide) (by rw [c1]; decide) rfl ?_
    refine s_bipush (v := 12) hJ d_119_36 (by decide) ?_
    exact s_iret hJ d_119_38 rfl rfl (h1 c0 c1)
  by_cases c2 : x0 = 1937011827
  · skip
    refine s_lookup (off := 38) (tgt := 39) hJ d_119_1 (by decide) (by rw [c2]; decide) rfl ?_
    refine s_bipush (v := 8) hJ d_119_39 (by decide) ?_
    exact s_iret hJ d_119_41 rfl rfl (h2 c0 c1 c2)
  refine s_lookup (off := 41) (tgt := 42) hJ d_119_1 (by decide) ((lv_osw (k := 1668232756) c0 (by decide)).trans ((lv_osw (k := 1937011555) c1 (by decide)).trans ((lv_osw (k := 1937011827) c2 (by decide)).trans (rfl)))) rfl ?_
  refine s_iconst_4 hJ d_119_42 ?_
  exact s_iret hJ d_119_43 rfl rfl (h3 c0 c1 c2)
-- ReelOfBoxes$Table.told()J : method 120
theorem d_120_0 : decode c_120 0 = .ok (.aload_n 0, 1) := by decide +kernel
theorem d_120_1 : decode c_120 1 = .ok (.getfield 30, 3) := by decide +kernel
theorem d_120_4 : decode c_120 4 = .ok (.aload_n 0, 1) := by decide +kernel
theorem d_120_5 : decode c_120 5 = .ok (.getfield 18, 3) := by decide +kernel
theorem d_120_8 : decode c_120 8 = .ok (.aload_n 0, 1) := by decide +kernel
theorem d_120_9 : decode c_120 9 = .ok (.getfield 24, 3) := by decide +kernel
theorem d_120_12 : decode c_120 12 = .ok (.iadd, 1) := by decide +kernel
theorem d_120_13 : decode c_120 13 = .ok (.iconst (4), 1) := by decide +kernel
theorem d_120_14 : decode c_120 14 = .ok (.isub, 1) := by decide +kernel
theorem d_120_15 : decode c_120 15 = .ok (.iconst (4), 1) := by decide +kernel
theorem d_120_16 : decode c_120 16 = .ok (.invokevirtual 39, 3) := by decide +kernel
theorem d_120_19 : decode c_120 19 = .ok (.lreturn, 1) := by decide +kernel
set_option maxRecDepth 4000 in
theorem b_120_0 {mc ms : Nat} {X : Option (Nat × (Nat → Int32))} {T : aj_Tt} {Q : aj_Q} {J : aj_J} (hJ : aj_Cl 7 c_120 (some .long) false mc ms X T Q J) {o0 : Nat} {q0 : Nat} {Z : aj_Z} {I : aj_I} {G : aj_G} {C : Nat × Nat} (k0 : Z.2.1 o0 = some (.inl 7)) (r0 : Z.2.2 o0 0 = .ref q0) (k1 : Z.2.1 q0 = some (.inl 2)) (h0 : T 0 0 86 [.ref q0, .int (((I o0 3) + (I o0 5)) - 4), .int 4] Z I G (fun r Z1 I1 G1 => J 19 [some (.ref o0)] (r.toList ++ []) Z1 I1 G1 C)) : J 0 [some (.ref o0)] [] Z I G C := by
  refine s_aload_n hJ d_120_0 rfl ?_
  refine s_getr hJ lf_7_30 rfl d_120_1 k0 r0 ?_
  refine s_aload_n hJ d_120_4 rfl ?_
  refine s_geti hJ lf_7_18 rfl d_120_5 k0 ?_
  refine s_aload_n hJ d_120_8 rfl ?_
  refine s_geti hJ lf_7_24 rfl d_120_9 k0 ?_
  refine s_iadd hJ d_120_12 ?_
  refine s_iconst_4 hJ d_120_13 ?_
  refine s_isub hJ d_120_14 ?_
  refine s_iconst_4 hJ d_120_15 ?_
  exact s_V2 hJ lm_7_39 d_120_16 (Nat.le_of_ble_eq_true rfl) k1 (h0)
set_option maxRecDepth 4000 in
theorem b_120_19 {mc ms : Nat} {X : Option (Nat × (Nat → Int32))} {T : aj_Tt} {Q : aj_Q} {J : aj_J} (hJ : aj_Cl 7 c_120 (some .long) false mc ms X T Q J) {w0 : Option Value} {s0 : Int64} {Z : aj_Z} {I : aj_I} {G : aj_G} {C : Nat × Nat} (h0 : Q (some (.long s0)) Z I G) : J 19 [w0] [.long s0] Z I G C := by
  exact s_lret hJ d_120_19 rfl (h0)
-- ReelOfBoxes$Table.sizeForAll()J : method 121
theorem d_121_0 : decode c_121 0 = .ok (.aload_n 0, 1) := by decide +kernel
theorem d_121_1 : decode c_121 1 = .ok (.getfield 15, 3) := by decide +kernel
theorem d_121_4 : decode c_121 4 = .ok (.ldc 34, 2) := by decide +kernel
theorem d_121_6 : decode c_121 6 = .ok (.if_icmp .ne (20), 3) := by decide +kernel
theorem d_121_9 : decode c_121 9 = .ok (.aload_n 0, 1) := by decide +kernel
theorem d_121_10 : decode c_121 10 = .ok (.getfield 30, 3) := by decide +kernel
theorem d_121_13 : decode c_121 13 = .ok (.aload_n 0, 1) := by decide +kernel
theorem d_121_14 : decode c_121 14 = .ok (.getfield 18, 3) := by decide +kernel
theorem d_121_17 : decode c_121 17 = .ok (.iconst (4), 1) := by decide +kernel
theorem d_121_18 : decode c_121 18 = .ok (.iadd, 1) := by decide +kernel
theorem d_121_19 : decode c_121 19 = .ok (.iconst (4), 1) := by decide +kernel
theorem d_121_20 : decode c_121 20 = .ok (.invokevirtual 39, 3) := by decide +kernel
theorem d_121_23 : decode c_121 23 = .ok (.goto (4), 3) := by decide +kernel
theorem d_121_26 : decode c_121 26 = .ok (.lconst 0, 1) := by decide +kernel
theorem d_121_27 : decode c_121 27 = .ok (.lreturn, 1) := by decide +kernel
set_option maxRecDepth 4000 in
theorem b_121_0 {mc ms : Nat} {X : Option (Nat × (Nat → Int32))} {T : aj_Tt} {Q : aj_Q} {J : aj_J} (hJ : aj_Cl 7 c_121 (some .long) false mc ms X T Q J) {o0 : Nat} {q0 : Nat} {Z : aj_Z} {I : aj_I} {G : aj_G} {C : Nat × Nat} (k0 : Z.2.1 o0 = some (.inl 7)) (h0 : ¬ (I o0 2) = 1937011578 → Q (some (.long 0)) Z I G) (r0 : Z.2.2 o0 0 = .ref q0) (k1 : Z.2.1 q0 = some (.inl 2)) (h1 : (I o0 2) = 1937011578 → T 0 0 86 [.ref q0, .int ((I o0 3) + 4), .int 4] Z I G (fun r Z1 I1 G1 => J 23 [some (.ref o0)] (r.toList ++ []) Z1 I1 G1 C)) : J 0 [some (.ref o0)] [] Z I G C := by
  refine s_aload_n hJ d_121_0 rfl ?_
  refine s_geti hJ lf_7_15 rfl d_121_1 k0 ?_
  refine s_ldc hJ lc_7_34 d_121_4 ?_
  refine s_icmp_ne (tgt := 26) hJ d_121_6 rfl (fun c0 => ?_) (fun c0 => ?_)
  · skip
    refine s_lconst_0 hJ d_121_26 ?_
    exact s_lret hJ d_121_27 rfl (h0 c0)
  · skip
    refine s_aload_n hJ d_121_9 rfl ?_
    refine s_getr hJ lf_7_30 rfl d_121_10 k0 r0 ?_
    refine s_aload_n hJ d_121_13 rfl ?_
    refine s_geti hJ lf_7_18 rfl d_121_14 k0 ?_
    refine s_iconst_4 hJ d_121_17 ?_
    refine s_iadd hJ d_121_18 ?_
    refine s_iconst_4 hJ d_121_19 ?_
    exact s_V2 hJ lm_7_39 d_121_20 (Nat.le_of_ble_eq_true rfl) k1 (h1 c0)
set_option maxRecDepth 4000 in
theorem b_121_23 {mc ms : Nat} {X : Option (Nat × (Nat → Int32))} {T : aj_Tt} {Q : aj_Q} {J : aj_J} (hJ : aj_Cl 7 c_121 (some .long) false mc ms X T Q J) {w0 : Option Value} {s0 : Int64} {Z : aj_Z} {I : aj_I} {G : aj_G} {C : Nat × Nat} (h0 : Q (some (.long s0)) Z I G) : J 23 [w0] [.long s0] Z I G C := by
  refine s_goto (tgt := 27) hJ d_121_23 rfl ?_
  exact s_lret hJ d_121_27 rfl (h0)
-- ReelOfBoxes$Table.listed()I : method 122
theorem d_122_0 : decode c_122 0 = .ok (.aload_n 0, 1) := by decide +kernel
theorem d_122_1 : decode c_122 1 = .ok (.getfield 21, 3) := by decide +kernel
theorem d_122_4 : decode c_122 4 = .ok (.aload_n 0, 1) := by decide +kernel
theorem d_122_5 : decode c_122 5 = .ok (.getfield 18, 3) := by decide +kernel
theorem d_122_8 : decode c_122 8 = .ok (.isub, 1) := by decide +kernel
theorem d_122_9 : decode c_122 9 = .ok (.istore_n 1, 1) := by decide +kernel
theorem d_122_10 : decode c_122 10 = .ok (.aload_n 0, 1) := by decide +kernel
theorem d_122_11 : decode c_122 11 = .ok (.invokevirtual 45, 3) := by decide +kernel
theorem d_122_14 : decode c_122 14 = .ok (.lconst 0, 1) := by decide +kernel
theorem d_122_15 : decode c_122 15 = .ok (.lcmp, 1) := by decide +kernel
theorem d_122_16 : decode c_122 16 = .ok (.ifCond .eq (7), 3) := by decide +kernel
theorem d_122_19 : decode c_122 19 = .ok (.iconst (0), 1) := by decide +kernel
theorem d_122_20 : decode c_122 20 = .ok (.goto (13), 3) := by decide +kernel
theorem d_122_23 : decode c_122 23 = .ok (.aload_n 0, 1) := by decide +kernel
theorem d_122_24 : decode c_122 24 = .ok (.invokevirtual 49, 3) := by decide +kernel
theorem d_122_27 : decode c_122 27 = .ok (.iload_n 1, 1) := by decide +kernel
theorem d_122_28 : decode c_122 28 = .ok (.i2l, 1) := by decide +kernel
theorem d_122_29 : decode c_122 29 = .ok (.invokestatic 52, 3) := by decide +kernel
theorem d_122_32 : decode c_122 32 = .ok (.l2i, 1) := by decide +kernel
theorem d_122_33 : decode c_122 33 = .ok (.ireturn, 1) := by decide +kernel
set_option maxRecDepth 4000 in
theorem b_122_0 {mc ms : Nat} {X : Option (Nat × (Nat → Int32))} {T : aj_Tt} {Q : aj_Q} {J : aj_J} (hJ : aj_Cl 7 c_122 (some .int) false mc ms X T Q J) {o0 : Nat} {Z : aj_Z} {I : aj_I} {G : aj_G} {C : Nat × Nat} (k0 : Z.2.1 o0 = some (.inl 7)) (h0 : T 0 0 121 [.ref o0] Z I G (fun r Z1 I1 G1 => J 14 [some (.ref o0), some (.int ((I o0 4) - (I o0 3)))] (r.toList ++ []) Z1 I1 G1 C)) : J 0 [some (.ref o0), none] [] Z I G C := by
  refine s_aload_n hJ d_122_0 rfl ?_
  refine s_geti hJ lf_7_21 rfl d_122_1 k0 ?_
  refine s_aload_n hJ d_122_4 rfl ?_
  refine s_geti hJ lf_7_18 rfl d_122_5 k0 ?_
  refine s_isub hJ d_122_8 ?_
  refine s_istore_n hJ d_122_9 (Nat.le_of_ble_eq_true rfl) ?_
  refine s_aload_n hJ d_122_10 rfl ?_
  exact s_V0 hJ lm_7_45 d_122_11 (Nat.le_of_ble_eq_true rfl) k0 (h0)
set_option maxRecDepth 4000 in
theorem b_122_14 {mc ms : Nat} {X : Option (Nat × (Nat → Int32))} {T : aj_Tt} {Q : aj_Q} {J : aj_J} (hJ : aj_Cl 7 c_122 (some .int) false mc ms X T Q J) {o0 : Nat} {x1 : Int32} {s0 : Int64} {Z : aj_Z} {I : aj_I} {G : aj_G} {C : Nat × Nat} (k0 : Z.2.1 o0 = some (.inl 7)) (h0 : s0 = 0 → T 0 0 120 [.ref o0] Z I G (fun r Z1 I1 G1 => J 27 [some (.ref o0), some (.int x1)] (r.toList ++ []) Z1 I1 G1 C)) (h1 : ¬ s0 = 0 → Q (some (.int 0)) Z I G) : J 14 [some (.ref o0), some (.int x1)] [.long s0] Z I G C := by
  refine s_lconst_0 hJ d_122_14 ?_
  refine s_lif_eq (tgt := 23) hJ d_122_15 d_122_16 rfl (fun c0 => ?_) (fun c0 => ?_)
  · skip
    refine s_aload_n hJ d_122_23 rfl ?_
    exact s_V0 hJ lm_7_49 d_122_24 (Nat.le_of_ble_eq_true rfl) k0 (h0 c0)
  · skip
    refine s_iconst_0 hJ d_122_19 ?_
    refine s_goto (tgt := 33) hJ d_122_20 rfl ?_
    exact s_iret hJ d_122_33 rfl rfl (h1 c0)
set_option maxRecDepth 4000 in
theorem b_122_27 {mc ms : Nat} {X : Option (Nat × (Nat → Int32))} {T : aj_Tt} {Q : aj_Q} {J : aj_J} (hJ : aj_Cl 7 c_122 (some .int) false mc ms X T Q J) {w0 : Option Value} {x1 : Int32} {s0 : Int64} {Z : aj_Z} {I : aj_I} {G : aj_G} {C : Nat × Nat} (h0 : Q (some (.int (Int64.toInt32 (if (Int32.toInt64 x1) < s0 then (Int32.toInt64 x1) else s0)))) Z I G) : J 27 [w0, some (.int x1)] [.long s0] Z I G C := by
  refine s_iload_n hJ d_122_27 rfl ?_
  refine s_i2l hJ d_122_28 ?_
  refine s_mminl hJ lx_7_52 d_122_29 (Nat.le_of_ble_eq_true rfl) ?_
  refine s_l2i hJ d_122_32 ?_
  exact s_iret hJ d_122_33 rfl rfl (h0)
