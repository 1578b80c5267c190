/-! entry rows, by a program -/
theorem t_in {d mc ms y : Nat} {as : List Value} {Z : aj_Z} {I : aj_I} {G : aj_G} {Q : aj_Q} {oc nL : Nat} {nm : MethodName} {cc : ByteArray} {rt : Option FieldType} {b : Bool} (h : aj_ms[y]? = some (oc, nm, cc, nL, rt)) (hb : (nm.name == "<init>") = b) (hl : (aj_sp as).length ≤ nL) (k : ∀ J : aj_J, aj_Cl oc cc rt b mc ms none (aj_T d) Q J → J 0 (aj_l0 nL as) [] Z I G (0, 0)) : aj_T (d + 1) mc ms y as Z I G Q := by
  unfold aj_T
  rw [h]
  subst hb
  exact ⟨hl, k⟩
-- ReelOfBoxes.<init>()V
theorem t_0 {d mc ms : Nat} {Q : aj_Q} {Z : aj_Z} {I : aj_I} {G : aj_G} {o0 : Nat} (k : ∀ J : aj_J, aj_Cl 0 c_0 (none) true mc ms none (aj_T d) Q J → J 0 [some (.ref o0)] [] Z I G (0, 0)) : aj_T (d + 1) mc ms 0 [.ref o0] Z I G Q := t_in (b := true) (by rfl) (by decide) (Nat.le_of_ble_eq_true rfl) k
-- ReelOfBoxes.track()I
theorem t_1 {d mc ms : Nat} {Q : aj_Q} {Z : aj_Z} {I : aj_I} {G : aj_G} {o0 : Nat} (k : ∀ J : aj_J, aj_Cl 0 c_1 (some .int) false mc ms none (aj_T d) Q J → J 0 [some (.ref o0)] [] Z I G (0, 0)) : aj_T (d + 1) mc ms 1 [.ref o0] Z I G Q := t_in (b := false) (by rfl) (by decide) (Nat.le_of_ble_eq_true rfl) k
-- ReelOfBoxes.sample(IIJI)I
theorem t_2 {d mc ms : Nat} {Q : aj_Q} {Z : aj_Z} {I : aj_I} {G : aj_G} {o0 : Nat} {x1 : Int32} {x2 : Int32} {x3 : Int64} {x5 : Int32} (k : ∀ J : aj_J, aj_Cl 0 c_2 (some .int) false mc ms none (aj_T d) Q J → J 0 [some (.ref o0), some (.int x1), some (.int x2), some (.long x3), none, some (.int x5), none] [] Z I G (0, 0)) : aj_T (d + 1) mc ms 2 [.ref o0, .int x1, .int x2, .long x3, .int x5] Z I G Q := t_in (b := false) (by rfl) (by decide) (Nat.le_of_ble_eq_true rfl) k
-- ReelOfBoxes.clear()I
theorem t_3 {d mc ms : Nat} {Q : aj_Q} {Z : aj_Z} {I : aj_I} {G : aj_G} {o0 : Nat} (k : ∀ J : aj_J, aj_Cl 0 c_3 (some .int) false mc ms none (aj_T d) Q J → J 0 [some (.ref o0)] [] Z I G (0, 0)) : aj_T (d + 1) mc ms 3 [.ref o0] Z I G Q := t_in (b := false) (by rfl) (by decide) (Nat.le_of_ble_eq_true rfl) k
-- ReelOfBoxes.write(II)I
theorem t_4 {d mc ms : Nat} {Q : aj_Q} {Z : aj_Z} {I : aj_I} {G : aj_G} {o0 : Nat} {x1 : Int32} {x2 : Int32} (k : ∀ J : aj_J, aj_Cl 0 c_4 (some .int) false mc ms none (aj_T d) Q J → J 0 [some (.ref o0), some (.int x1), some (.int x2)] [] Z I G (0, 0)) : aj_T (d + 1) mc ms 4 [.ref o0, .int x1, .int x2] Z I G Q := t_in (b := false) (by rfl) (by decide) (Nat.le_of_ble_eq_true rfl) k
-- ReelOfBoxes.read()I
theorem t_5 {d mc ms : Nat} {Q : aj_Q} {Z : aj_Z} {I : aj_I} {G : aj_G} {o0 : Nat} (k : ∀ J : aj_J, aj_Cl 0 c_5 (some .int) false mc ms none (aj_T d) Q J → J 0 [some (.ref o0)] [] Z I G (0, 0)) : aj_T (d + 1) mc ms 5 [.ref o0] Z I G Q := t_in (b := false) (by rfl) (by decide) (Nat.le_of_ble_eq_true rfl) k
-- ReelOfBoxes.place()I
theorem t_6 {d mc ms : Nat} {Q : aj_Q} {Z : aj_Z} {I : aj_I} {G : aj_G} {o0 : Nat} (k : ∀ J : aj_J, aj_Cl 0 c_6 (some .int) false mc ms none (aj_T d) Q J → J 0 [some (.ref o0)] [] Z I G (0, 0)) : aj_T (d + 1) mc ms 6 [.ref o0] Z I G Q := t_in (b := false) (by rfl) (by decide) (Nat.le_of_ble_eq_true rfl) k
-- ReelOfBoxes.tracks()I
theorem t_7 {d mc ms : Nat} {Q : aj_Q} {Z : aj_Z} {I : aj_I} {G : aj_G} {o0 : Nat} (k : ∀ J : aj_J, aj_Cl 0 c_7 (some .int) false mc ms none (aj_T d) Q J → J 0 [some (.ref o0)] [] Z I G (0, 0)) : aj_T (d + 1) mc ms 7 [.ref o0] Z I G Q := t_in (b := false) (by rfl) (by decide) (Nat.le_of_ble_eq_true rfl) k
-- ReelOfBoxes.samples(I)I
theorem t_8 {d mc ms : Nat} {Q : aj_Q} {Z : aj_Z} {I : aj_I} {G : aj_G} {o0 : Nat} {x1 : Int32} (k : ∀ J : aj_J, aj_Cl 0 c_8 (some .int) false mc ms none (aj_T d) Q J → J 0 [some (.ref o0), some (.int x1), none] [] Z I G (0, 0)) : aj_T (d + 1) mc ms 8 [.ref o0, .int x1] Z I G Q := t_in (b := false) (by rfl) (by decide) (Nat.le_of_ble_eq_true rfl) k
-- ReelOfBoxes.size(II)I
theorem t_9 {d mc ms : Nat} {Q : aj_Q} {Z : aj_Z} {I : aj_I} {G : aj_G} {o0 : Nat} {x1 : Int32} {x2 : Int32} (k : ∀ J : aj_J, aj_Cl 0 c_9 (some .int) false mc ms none (aj_T d) Q J → J 0 [some (.ref o0), some (.int x1), some (.int x2), none] [] Z I G (0, 0)) : aj_T (d + 1) mc ms 9 [.ref o0, .int x1, .int x2] Z I G Q := t_in (b := false) (by rfl) (by decide) (Nat.le_of_ble_eq_true rfl) k
-- ReelOfBoxes.time(II)J
theorem t_10 {d mc ms : Nat} {Q : aj_Q} {Z : aj_Z} {I : aj_I} {G : aj_G} {o0 : Nat} {x1 : Int32} {x2 : Int32} (k : ∀ J : aj_J, aj_Cl 0 c_10 (some .long) false mc ms none (aj_T d) Q J → J 0 [some (.ref o0), some (.int x1), some (.int x2), none] [] Z I G (0, 0)) : aj_T (d + 1) mc ms 10 [.ref o0, .int x1, .int x2] Z I G Q := t_in (b := false) (by rfl) (by decide) (Nat.le_of_ble_eq_true rfl) k
-- ReelOfBoxes.bytes(II)J
theorem t_11 {d mc ms : Nat} {Q : aj_Q} {Z : aj_Z} {I : aj_I} {G : aj_G} {o0 : Nat} {x1 : Int32} {x2 : Int32} (k : ∀ J : aj_J, aj_Cl 0 c_11 (some .long) false mc ms none (aj_T d) Q J → J 0 [some (.ref o0), some (.int x1), some (.int x2), none] [] Z I G (0, 0)) : aj_T (d + 1) mc ms 11 [.ref o0, .int x1, .int x2] Z I G Q := t_in (b := false) (by rfl) (by decide) (Nat.le_of_ble_eq_true rfl) k
-- ReelOfBoxes.length()I
theorem t_12 {d mc ms : Nat} {Q : aj_Q} {Z : aj_Z} {I : aj_I} {G : aj_G} {o0 : Nat} (k : ∀ J : aj_J, aj_Cl 0 c_12 (some .int) false mc ms none (aj_T d) Q J → J 0 [some (.ref o0)] [] Z I G (0, 0)) : aj_T (d + 1) mc ms 12 [.ref o0] Z I G Q := t_in (b := false) (by rfl) (by decide) (Nat.le_of_ble_eq_true rfl) k
-- ReelOfBoxes.at(I)I
theorem t_13 {d mc ms : Nat} {Q : aj_Q} {Z : aj_Z} {I : aj_I} {G : aj_G} {o0 : Nat} {x1 : Int32} (k : ∀ J : aj_J, aj_Cl 0 c_13 (some .int) false mc ms none (aj_T d) Q J → J 0 [some (.ref o0), some (.int x1)] [] Z I G (0, 0)) : aj_T (d + 1) mc ms 13 [.ref o0, .int x1] Z I G Q := t_in (b := false) (by rfl) (by decide) (Nat.le_of_ble_eq_true rfl) k
-- ReelOfBoxes.poke(II)Z
theorem t_14 {d mc ms : Nat} {Q : aj_Q} {Z : aj_Z} {I : aj_I} {G : aj_G} {o0 : Nat} {x1 : Int32} {x2 : Int32} (k : ∀ J : aj_J, aj_Cl 0 c_14 (some .boolean) false mc ms none (aj_T d) Q J → J 0 [some (.ref o0), some (.int x1), some (.int x2)] [] Z I G (0, 0)) : aj_T (d + 1) mc ms 14 [.ref o0, .int x1, .int x2] Z I G Q := t_in (b := false) (by rfl) (by decide) (Nat.le_of_ble_eq_true rfl) k
-- ReelOfBoxes.append(JI)I
theorem t_15 {d mc ms : Nat} {Q : aj_Q} {Z : aj_Z} {I : aj_I} {G : aj_G} {o0 : Nat} {x1 : Int64} {x3 : Int32} (k : ∀ J : aj_J, aj_Cl 0 c_15 (some .int) false mc ms none (aj_T d) Q J → J 0 [some (.ref o0), some (.long x1), none, some (.int x3)] [] Z I G (0, 0)) : aj_T (d + 1) mc ms 15 [.ref o0, .long x1, .int x3] Z I G Q := t_in (b := false) (by rfl) (by decide) (Nat.le_of_ble_eq_true rfl) k
-- ReelOfBoxes.cut(I)Z
theorem t_16 {d mc ms : Nat} {Q : aj_Q} {Z : aj_Z} {I : aj_I} {G : aj_G} {o0 : Nat} {x1 : Int32} (k : ∀ J : aj_J, aj_Cl 0 c_16 (some .boolean) false mc ms none (aj_T d) Q J → J 0 [some (.ref o0), some (.int x1)] [] Z I G (0, 0)) : aj_T (d + 1) mc ms 16 [.ref o0, .int x1] Z I G Q := t_in (b := false) (by rfl) (by decide) (Nat.le_of_ble_eq_true rfl) k
-- ReelOfBoxes.isTooMuch(J)Z
theorem t_17 {d mc ms : Nat} {Q : aj_Q} {Z : aj_Z} {I : aj_I} {G : aj_G} {x0 : Int64} (k : ∀ J : aj_J, aj_Cl 0 c_17 (some .boolean) false mc ms none (aj_T d) Q J → J 0 [some (.long x0), none] [] Z I G (0, 0)) : aj_T (d + 1) mc ms 17 [.long x0] Z I G Q := t_in (b := false) (by rfl) (by decide) (Nat.le_of_ble_eq_true rfl) k
-- ReelOfBoxes.tableOfType(I)I
theorem t_18 {d mc ms : Nat} {Q : aj_Q} {Z : aj_Z} {I : aj_I} {G : aj_G} {x0 : Int32} (k : ∀ J : aj_J, aj_Cl 0 c_18 (some .int) false mc ms none (aj_T d) Q J → J 0 [some (.int x0)] [] Z I G (0, 0)) : aj_T (d + 1) mc ms 18 [.int x0] Z I G Q := t_in (b := false) (by rfl) (by decide) (Nat.le_of_ble_eq_true rfl) k
-- ReelOfBoxesModel.<init>()V
theorem t_19 {d mc ms : Nat} {Q : aj_Q} {Z : aj_Z} {I : aj_I} {G : aj_G} {o0 : Nat} (k : ∀ J : aj_J, aj_Cl 1 c_19 (none) true mc ms none (aj_T d) Q J → J 0 [some (.ref o0)] [] Z I G (0, 0)) : aj_T (d + 1) mc ms 19 [.ref o0] Z I G Q := t_in (b := true) (by rfl) (by decide) (Nat.le_of_ble_eq_true rfl) k
-- ReelOfBoxesModel.track()I
theorem t_20 {d mc ms : Nat} {Q : aj_Q} {Z : aj_Z} {I : aj_I} {G : aj_G} {o0 : Nat} (k : ∀ J : aj_J, aj_Cl 1 c_20 (some .int) false mc ms none (aj_T d) Q J → J 0 [some (.ref o0)] [] Z I G (0, 0)) : aj_T (d + 1) mc ms 20 [.ref o0] Z I G Q := t_in (b := false) (by rfl) (by decide) (Nat.le_of_ble_eq_true rfl) k
-- ReelOfBoxesModel.isTrack(I)Z
theorem t_21 {d mc ms : Nat} {Q : aj_Q} {Z : aj_Z} {I : aj_I} {G : aj_G} {o0 : Nat} {x1 : Int32} (k : ∀ J : aj_J, aj_Cl 1 c_21 (some .boolean) false mc ms none (aj_T d) Q J → J 0 [some (.ref o0), some (.int x1)] [] Z I G (0, 0)) : aj_T (d + 1) mc ms 21 [.ref o0, .int x1] Z I G Q := t_in (b := false) (by rfl) (by decide) (Nat.le_of_ble_eq_true rfl) k
-- ReelOfBoxesModel.isSample(II)Z
theorem t_22 {d mc ms : Nat} {Q : aj_Q} {Z : aj_Z} {I : aj_I} {G : aj_G} {o0 : Nat} {x1 : Int32} {x2 : Int32} (k : ∀ J : aj_J, aj_Cl 1 c_22 (some .boolean) false mc ms none (aj_T d) Q J → J 0 [some (.ref o0), some (.int x1), some (.int x2)] [] Z I G (0, 0)) : aj_T (d + 1) mc ms 22 [.ref o0, .int x1, .int x2] Z I G Q := t_in (b := false) (by rfl) (by decide) (Nat.le_of_ble_eq_true rfl) k
-- ReelOfBoxesModel.sample(IIJI)I
theorem t_23 {d mc ms : Nat} {Q : aj_Q} {Z : aj_Z} {I : aj_I} {G : aj_G} {o0 : Nat} {x1 : Int32} {x2 : Int32} {x3 : Int64} {x5 : Int32} (k : ∀ J : aj_J, aj_Cl 1 c_23 (some .int) false mc ms none (aj_T d) Q J → J 0 [some (.ref o0), some (.int x1), some (.int x2), some (.long x3), none, some (.int x5), none] [] Z I G (0, 0)) : aj_T (d + 1) mc ms 23 [.ref o0, .int x1, .int x2, .long x3, .int x5] Z I G Q := t_in (b := false) (by rfl) (by decide) (Nat.le_of_ble_eq_true rfl) k
-- ReelOfBoxesModel.clear()I
theorem t_24 {d mc ms : Nat} {Q : aj_Q} {Z : aj_Z} {I : aj_I} {G : aj_G} {o0 : Nat} (k : ∀ J : aj_J, aj_Cl 1 c_24 (some .int) false mc ms none (aj_T d) Q J → J 0 [some (.ref o0), none] [] Z I G (0, 0)) : aj_T (d + 1) mc ms 24 [.ref o0] Z I G Q := t_in (b := false) (by rfl) (by decide) (Nat.le_of_ble_eq_true rfl) k
-- ReelOfBoxesModel.put(JI)V
theorem t_25 {d mc ms : Nat} {Q : aj_Q} {Z : aj_Z} {I : aj_I} {G : aj_G} {o0 : Nat} {x1 : Int64} {x3 : Int32} (k : ∀ J : aj_J, aj_Cl 1 c_25 (none) false mc ms none (aj_T d) Q J → J 0 [some (.ref o0), some (.long x1), none, some (.int x3), none] [] Z I G (0, 0)) : aj_T (d + 1) mc ms 25 [.ref o0, .long x1, .int x3] Z I G Q := t_in (b := false) (by rfl) (by decide) (Nat.le_of_ble_eq_true rfl) k
-- ReelOfBoxesModel.head(II)V
theorem t_26 {d mc ms : Nat} {Q : aj_Q} {Z : aj_Z} {I : aj_I} {G : aj_G} {o0 : Nat} {x1 : Int32} {x2 : Int32} (k : ∀ J : aj_J, aj_Cl 1 c_26 (none) false mc ms none (aj_T d) Q J → J 0 [some (.ref o0), some (.int x1), some (.int x2)] [] Z I G (0, 0)) : aj_T (d + 1) mc ms 26 [.ref o0, .int x1, .int x2] Z I G Q := t_in (b := false) (by rfl) (by decide) (Nat.le_of_ble_eq_true rfl) k
-- ReelOfBoxesModel.chunksOf(II)I
theorem t_27 {d mc ms : Nat} {Q : aj_Q} {Z : aj_Z} {I : aj_I} {G : aj_G} {o0 : Nat} {x1 : Int32} {x2 : Int32} (k : ∀ J : aj_J, aj_Cl 1 c_27 (some .int) false mc ms none (aj_T d) Q J → J 0 [some (.ref o0), some (.int x1), some (.int x2)] [] Z I G (0, 0)) : aj_T (d + 1) mc ms 27 [.ref o0, .int x1, .int x2] Z I G Q := t_in (b := false) (by rfl) (by decide) (Nat.le_of_ble_eq_true rfl) k
-- ReelOfBoxesModel.chunkSize(III)I
theorem t_28 {d mc ms : Nat} {Q : aj_Q} {Z : aj_Z} {I : aj_I} {G : aj_G} {o0 : Nat} {x1 : Int32} {x2 : Int32} {x3 : Int32} (k : ∀ J : aj_J, aj_Cl 1 c_28 (some .int) false mc ms none (aj_T d) Q J → J 0 [some (.ref o0), some (.int x1), some (.int x2), some (.int x3), none] [] Z I G (0, 0)) : aj_T (d + 1) mc ms 28 [.ref o0, .int x1, .int x2, .int x3] Z I G Q := t_in (b := false) (by rfl) (by decide) (Nat.le_of_ble_eq_true rfl) k
-- ReelOfBoxesModel.rowsOf(I)I
theorem t_29 {d mc ms : Nat} {Q : aj_Q} {Z : aj_Z} {I : aj_I} {G : aj_G} {o0 : Nat} {x1 : Int32} (k : ∀ J : aj_J, aj_Cl 1 c_29 (some .int) false mc ms none (aj_T d) Q J → J 0 [some (.ref o0), some (.int x1), none, none] [] Z I G (0, 0)) : aj_T (d + 1) mc ms 29 [.ref o0, .int x1] Z I G Q := t_in (b := false) (by rfl) (by decide) (Nat.le_of_ble_eq_true rfl) k
-- ReelOfBoxesModel.turnsOf(II)I
theorem t_30 {d mc ms : Nat} {Q : aj_Q} {Z : aj_Z} {I : aj_I} {G : aj_G} {o0 : Nat} {x1 : Int32} {x2 : Int32} (k : ∀ J : aj_J, aj_Cl 1 c_30 (some .int) false mc ms none (aj_T d) Q J → J 0 [some (.ref o0), some (.int x1), some (.int x2), none] [] Z I G (0, 0)) : aj_T (d + 1) mc ms 30 [.ref o0, .int x1, .int x2] Z I G Q := t_in (b := false) (by rfl) (by decide) (Nat.le_of_ble_eq_true rfl) k
-- ReelOfBoxesModel.stblSize(IIZ)I
theorem t_31 {d mc ms : Nat} {Q : aj_Q} {Z : aj_Z} {I : aj_I} {G : aj_G} {o0 : Nat} {x1 : Int32} {x2 : Int32} {x3 : Int32} (k : ∀ J : aj_J, aj_Cl 1 c_31 (some .int) false mc ms none (aj_T d) Q J → J 0 [some (.ref o0), some (.int x1), some (.int x2), some (.int x3)] [] Z I G (0, 0)) : aj_T (d + 1) mc ms 31 [.ref o0, .int x1, .int x2, .int x3] Z I G Q := t_in (b := false) (by rfl) (by decide) (Nat.le_of_ble_eq_true rfl) k
-- ReelOfBoxesModel.bytesOf(III)I
theorem t_32 {d mc ms : Nat} {Q : aj_Q} {Z : aj_Z} {I : aj_I} {G : aj_G} {o0 : Nat} {x1 : Int32} {x2 : Int32} {x3 : Int32} (k : ∀ J : aj_J, aj_Cl 1 c_32 (some .int) false mc ms none (aj_T d) Q J → J 0 [some (.ref o0), some (.int x1), some (.int x2), some (.int x3), none, none] [] Z I G (0, 0)) : aj_T (d + 1) mc ms 32 [.ref o0, .int x1, .int x2, .int x3] Z I G Q := t_in (b := false) (by rfl) (by decide) (Nat.le_of_ble_eq_true rfl) k
-- ReelOfBoxesModel.bytesBefore(III)I
theorem t_33 {d mc ms : Nat} {Q : aj_Q} {Z : aj_Z} {I : aj_I} {G : aj_G} {o0 : Nat} {x1 : Int32} {x2 : Int32} {x3 : Int32} (k : ∀ J : aj_J, aj_Cl 1 c_33 (some .int) false mc ms none (aj_T d) Q J → J 0 [some (.ref o0), some (.int x1), some (.int x2), some (.int x3), none, none, none] [] Z I G (0, 0)) : aj_T (d + 1) mc ms 33 [.ref o0, .int x1, .int x2, .int x3] Z I G Q := t_in (b := false) (by rfl) (by decide) (Nat.le_of_ble_eq_true rfl) k
-- ReelOfBoxesModel.writeTimes(I)V
theorem t_34 {d mc ms : Nat} {Q : aj_Q} {Z : aj_Z} {I : aj_I} {G : aj_G} {o0 : Nat} {x1 : Int32} (k : ∀ J : aj_J, aj_Cl 1 c_34 (none) false mc ms none (aj_T d) Q J → J 0 [some (.ref o0), some (.int x1), none, none, none, none] [] Z I G (0, 0)) : aj_T (d + 1) mc ms 34 [.ref o0, .int x1] Z I G Q := t_in (b := false) (by rfl) (by decide) (Nat.le_of_ble_eq_true rfl) k
-- ReelOfBoxesModel.writeTurns(II)V
theorem t_35 {d mc ms : Nat} {Q : aj_Q} {Z : aj_Z} {I : aj_I} {G : aj_G} {o0 : Nat} {x1 : Int32} {x2 : Int32} (k : ∀ J : aj_J, aj_Cl 1 c_35 (none) false mc ms none (aj_T d) Q J → J 0 [some (.ref o0), some (.int x1), some (.int x2), none, none] [] Z I G (0, 0)) : aj_T (d + 1) mc ms 35 [.ref o0, .int x1, .int x2] Z I G Q := t_in (b := false) (by rfl) (by decide) (Nat.le_of_ble_eq_true rfl) k
-- ReelOfBoxesModel.writeSizes(I)V
theorem t_36 {d mc ms : Nat} {Q : aj_Q} {Z : aj_Z} {I : aj_I} {G : aj_G} {o0 : Nat} {x1 : Int32} (k : ∀ J : aj_J, aj_Cl 1 c_36 (none) false mc ms none (aj_T d) Q J → J 0 [some (.ref o0), some (.int x1), none] [] Z I G (0, 0)) : aj_T (d + 1) mc ms 36 [.ref o0, .int x1] Z I G Q := t_in (b := false) (by rfl) (by decide) (Nat.le_of_ble_eq_true rfl) k
-- ReelOfBoxesModel.writePlaces(IIZI)V
theorem t_37 {d mc ms : Nat} {Q : aj_Q} {Z : aj_Z} {I : aj_I} {G : aj_G} {o0 : Nat} {x1 : Int32} {x2 : Int32} {x3 : Int32} {x4 : Int32} (k : ∀ J : aj_J, aj_Cl 1 c_37 (none) false mc ms none (aj_T d) Q J → J 0 [some (.ref o0), some (.int x1), some (.int x2), some (.int x3), some (.int x4), none, none, none] [] Z I G (0, 0)) : aj_T (d + 1) mc ms 37 [.ref o0, .int x1, .int x2, .int x3, .int x4] Z I G Q := t_in (b := false) (by rfl) (by decide) (Nat.le_of_ble_eq_true rfl) k
-- ReelOfBoxesModel.allBytes()I
theorem t_38 {d mc ms : Nat} {Q : aj_Q} {Z : aj_Z} {I : aj_I} {G : aj_G} {o0 : Nat} (k : ∀ J : aj_J, aj_Cl 1 c_38 (some .int) false mc ms none (aj_T d) Q J → J 0 [some (.ref o0), none, none, none] [] Z I G (0, 0)) : aj_T (d + 1) mc ms 38 [.ref o0] Z I G Q := t_in (b := false) (by rfl) (by decide) (Nat.le_of_ble_eq_true rfl) k
-- ReelOfBoxesModel.writeData(I)V
theorem t_39 {d mc ms : Nat} {Q : aj_Q} {Z : aj_Z} {I : aj_I} {G : aj_G} {o0 : Nat} {x1 : Int32} (k : ∀ J : aj_J, aj_Cl 1 c_39 (none) false mc ms none (aj_T d) Q J → J 0 [some (.ref o0), some (.int x1), none, none, none, none, none] [] Z I G (0, 0)) : aj_T (d + 1) mc ms 39 [.ref o0, .int x1] Z I G Q := t_in (b := false) (by rfl) (by decide) (Nat.le_of_ble_eq_true rfl) k
-- ReelOfBoxesModel.write(II)I
theorem t_40 {d mc ms : Nat} {Q : aj_Q} {Z : aj_Z} {I : aj_I} {G : aj_G} {o0 : Nat} {x1 : Int32} {x2 : Int32} (k : ∀ J : aj_J, aj_Cl 1 c_40 (some .int) false mc ms none (aj_T d) Q J → J 0 [some (.ref o0), some (.int x1), some (.int x2), none, none, none, none, none, none, none] [] Z I G (0, 0)) : aj_T (d + 1) mc ms 40 [.ref o0, .int x1, .int x2] Z I G Q := t_in (b := false) (by rfl) (by decide) (Nat.le_of_ble_eq_true rfl) k
-- ReelOfBoxesModel.numberAt(II)J
theorem t_41 {d mc ms : Nat} {Q : aj_Q} {Z : aj_Z} {I : aj_I} {G : aj_G} {o0 : Nat} {x1 : Int32} {x2 : Int32} (k : ∀ J : aj_J, aj_Cl 1 c_41 (some .long) false mc ms none (aj_T d) Q J → J 0 [some (.ref o0), some (.int x1), some (.int x2), none, none, none] [] Z I G (0, 0)) : aj_T (d + 1) mc ms 41 [.ref o0, .int x1, .int x2] Z I G Q := t_in (b := false) (by rfl) (by decide) (Nat.le_of_ble_eq_true rfl) k
-- ReelOfBoxesModel.readHead(II)Z
theorem t_42 {d mc ms : Nat} {Q : aj_Q} {Z : aj_Z} {I : aj_I} {G : aj_G} {o0 : Nat} {x1 : Int32} {x2 : Int32} (k : ∀ J : aj_J, aj_Cl 1 c_42 (some .boolean) false mc ms none (aj_T d) Q J → J 0 [some (.ref o0), some (.int x1), some (.int x2), none, none] [] Z I G (0, 0)) : aj_T (d + 1) mc ms 42 [.ref o0, .int x1, .int x2] Z I G Q := t_in (b := false) (by rfl) (by decide) (Nat.le_of_ble_eq_true rfl) k
-- ReelOfBoxesModel.tableOf(I)I
theorem t_43 {d mc ms : Nat} {Q : aj_Q} {Z : aj_Z} {I : aj_I} {G : aj_G} {x0 : Int32} (k : ∀ J : aj_J, aj_Cl 1 c_43 (some .int) false mc ms none (aj_T d) Q J → J 0 [some (.int x0)] [] Z I G (0, 0)) : aj_T (d + 1) mc ms 43 [.int x0] Z I G Q := t_in (b := false) (by rfl) (by decide) (Nat.le_of_ble_eq_true rfl) k
-- ReelOfBoxesModel.isTooMany()Z
theorem t_44 {d mc ms : Nat} {Q : aj_Q} {Z : aj_Z} {I : aj_I} {G : aj_G} {o0 : Nat} (k : ∀ J : aj_J, aj_Cl 1 c_44 (some .boolean) false mc ms none (aj_T d) Q J → J 0 [some (.ref o0), none, none] [] Z I G (0, 0)) : aj_T (d + 1) mc ms 44 [.ref o0] Z I G Q := t_in (b := false) (by rfl) (by decide) (Nat.le_of_ble_eq_true rfl) k
-- ReelOfBoxesModel.isGoneInto()Z
theorem t_45 {d mc ms : Nat} {Q : aj_Q} {Z : aj_Z} {I : aj_I} {G : aj_G} {o0 : Nat} (k : ∀ J : aj_J, aj_Cl 1 c_45 (some .boolean) false mc ms none (aj_T d) Q J → J 0 [some (.ref o0)] [] Z I G (0, 0)) : aj_T (d + 1) mc ms 45 [.ref o0] Z I G Q := t_in (b := false) (by rfl) (by decide) (Nat.le_of_ble_eq_true rfl) k
-- ReelOfBoxesModel.note(I)V
theorem t_46 {d mc ms : Nat} {Q : aj_Q} {Z : aj_Z} {I : aj_I} {G : aj_G} {o0 : Nat} {x1 : Int32} (k : ∀ J : aj_J, aj_Cl 1 c_46 (none) false mc ms none (aj_T d) Q J → J 0 [some (.ref o0), some (.int x1), none, none] [] Z I G (0, 0)) : aj_T (d + 1) mc ms 46 [.ref o0, .int x1] Z I G Q := t_in (b := false) (by rfl) (by decide) (Nat.le_of_ble_eq_true rfl) k
-- ReelOfBoxesModel.isWhole()Z
theorem t_47 {d mc ms : Nat} {Q : aj_Q} {Z : aj_Z} {I : aj_I} {G : aj_G} {o0 : Nat} (k : ∀ J : aj_J, aj_Cl 1 c_47 (some .boolean) false mc ms none (aj_T d) Q J → J 0 [some (.ref o0), none] [] Z I G (0, 0)) : aj_T (d + 1) mc ms 47 [.ref o0] Z I G Q := t_in (b := false) (by rfl) (by decide) (Nat.le_of_ble_eq_true rfl) k
-- ReelOfBoxesModel.tell(II)I
theorem t_48 {d mc ms : Nat} {Q : aj_Q} {Z : aj_Z} {I : aj_I} {G : aj_G} {o0 : Nat} {x1 : Int32} {x2 : Int32} (k : ∀ J : aj_J, aj_Cl 1 c_48 (some .int) false mc ms none (aj_T d) Q J → J 0 [some (.ref o0), some (.int x1), some (.int x2)] [] Z I G (0, 0)) : aj_T (d + 1) mc ms 48 [.ref o0, .int x1, .int x2] Z I G Q := t_in (b := false) (by rfl) (by decide) (Nat.le_of_ble_eq_true rfl) k
-- ReelOfBoxesModel.readBoxes()I
theorem t_49 {d mc ms : Nat} {Q : aj_Q} {Z : aj_Z} {I : aj_I} {G : aj_G} {o0 : Nat} (k : ∀ J : aj_J, aj_Cl 1 c_49 (some .int) false mc ms none (aj_T d) Q J → J 0 [some (.ref o0), none, none] [] Z I G (0, 0)) : aj_T (d + 1) mc ms 49 [.ref o0] Z I G Q := t_in (b := false) (by rfl) (by decide) (Nat.le_of_ble_eq_true rfl) k
-- ReelOfBoxesModel.entrySize(II)I
theorem t_50 {d mc ms : Nat} {Q : aj_Q} {Z : aj_Z} {I : aj_I} {G : aj_G} {o0 : Nat} {x1 : Int32} {x2 : Int32} (k : ∀ J : aj_J, aj_Cl 1 c_50 (some .int) false mc ms none (aj_T d) Q J → J 0 [some (.ref o0), some (.int x1), some (.int x2)] [] Z I G (0, 0)) : aj_T (d + 1) mc ms 50 [.ref o0, .int x1, .int x2] Z I G Q := t_in (b := false) (by rfl) (by decide) (Nat.le_of_ble_eq_true rfl) k
-- ReelOfBoxesModel.headSize(I)I
theorem t_51 {d mc ms : Nat} {Q : aj_Q} {Z : aj_Z} {I : aj_I} {G : aj_G} {o0 : Nat} {x1 : Int32} (k : ∀ J : aj_J, aj_Cl 1 c_51 (some .int) false mc ms none (aj_T d) Q J → J 0 [some (.ref o0), some (.int x1)] [] Z I G (0, 0)) : aj_T (d + 1) mc ms 51 [.ref o0, .int x1] Z I G Q := t_in (b := false) (by rfl) (by decide) (Nat.le_of_ble_eq_true rfl) k
-- ReelOfBoxesModel.manyOf(II)J
theorem t_52 {d mc ms : Nat} {Q : aj_Q} {Z : aj_Z} {I : aj_I} {G : aj_G} {o0 : Nat} {x1 : Int32} {x2 : Int32} (k : ∀ J : aj_J, aj_Cl 1 c_52 (some .long) false mc ms none (aj_T d) Q J → J 0 [some (.ref o0), some (.int x1), some (.int x2)] [] Z I G (0, 0)) : aj_T (d + 1) mc ms 52 [.ref o0, .int x1, .int x2] Z I G Q := t_in (b := false) (by rfl) (by decide) (Nat.le_of_ble_eq_true rfl) k
-- ReelOfBoxesModel.entriesOf(II)J
theorem t_53 {d mc ms : Nat} {Q : aj_Q} {Z : aj_Z} {I : aj_I} {G : aj_G} {o0 : Nat} {x1 : Int32} {x2 : Int32} (k : ∀ J : aj_J, aj_Cl 1 c_53 (some .long) false mc ms none (aj_T d) Q J → J 0 [some (.ref o0), some (.int x1), some (.int x2)] [] Z I G (0, 0)) : aj_T (d + 1) mc ms 53 [.ref o0, .int x1, .int x2] Z I G Q := t_in (b := false) (by rfl) (by decide) (Nat.le_of_ble_eq_true rfl) k
-- ReelOfBoxesModel.hasLength(II)Z
theorem t_54 {d mc ms : Nat} {Q : aj_Q} {Z : aj_Z} {I : aj_I} {G : aj_G} {o0 : Nat} {x1 : Int32} {x2 : Int32} (k : ∀ J : aj_J, aj_Cl 1 c_54 (some .boolean) false mc ms none (aj_T d) Q J → J 0 [some (.ref o0), some (.int x1), some (.int x2), none] [] Z I G (0, 0)) : aj_T (d + 1) mc ms 54 [.ref o0, .int x1, .int x2] Z I G Q := t_in (b := false) (by rfl) (by decide) (Nat.le_of_ble_eq_true rfl) k
-- ReelOfBoxesModel.entry(IIII)J
theorem t_55 {d mc ms : Nat} {Q : aj_Q} {Z : aj_Z} {I : aj_I} {G : aj_G} {o0 : Nat} {x1 : Int32} {x2 : Int32} {x3 : Int32} {x4 : Int32} (k : ∀ J : aj_J, aj_Cl 1 c_55 (some .long) false mc ms none (aj_T d) Q J → J 0 [some (.ref o0), some (.int x1), some (.int x2), some (.int x3), some (.int x4), none] [] Z I G (0, 0)) : aj_T (d + 1) mc ms 55 [.ref o0, .int x1, .int x2, .int x3, .int x4] Z I G Q := t_in (b := false) (by rfl) (by decide) (Nat.le_of_ble_eq_true rfl) k
-- ReelOfBoxesModel.isRight(J)Z
theorem t_56 {d mc ms : Nat} {Q : aj_Q} {Z : aj_Z} {I : aj_I} {G : aj_G} {x0 : Int64} (k : ∀ J : aj_J, aj_Cl 1 c_56 (some .boolean) false mc ms none (aj_T d) Q J → J 0 [some (.long x0), none] [] Z I G (0, 0)) : aj_T (d + 1) mc ms 56 [.long x0] Z I G Q := t_in (b := false) (by rfl) (by decide) (Nat.le_of_ble_eq_true rfl) k
-- ReelOfBoxesModel.isEntryRight(III)Z
theorem t_57 {d mc ms : Nat} {Q : aj_Q} {Z : aj_Z} {I : aj_I} {G : aj_G} {o0 : Nat} {x1 : Int32} {x2 : Int32} {x3 : Int32} (k : ∀ J : aj_J, aj_Cl 1 c_57 (some .boolean) false mc ms none (aj_T d) Q J → J 0 [some (.ref o0), some (.int x1), some (.int x2), some (.int x3), none, none, none, none, none] [] Z I G (0, 0)) : aj_T (d + 1) mc ms 57 [.ref o0, .int x1, .int x2, .int x3] Z I G Q := t_in (b := false) (by rfl) (by decide) (Nat.le_of_ble_eq_true rfl) k
-- ReelOfBoxesModel.areNumbersRight(II)Z
theorem t_58 {d mc ms : Nat} {Q : aj_Q} {Z : aj_Z} {I : aj_I} {G : aj_G} {o0 : Nat} {x1 : Int32} {x2 : Int32} (k : ∀ J : aj_J, aj_Cl 1 c_58 (some .boolean) false mc ms none (aj_T d) Q J → J 0 [some (.ref o0), some (.int x1), some (.int x2), none, none, none, none] [] Z I G (0, 0)) : aj_T (d + 1) mc ms 58 [.ref o0, .int x1, .int x2] Z I G Q := t_in (b := false) (by rfl) (by decide) (Nat.le_of_ble_eq_true rfl) k
-- ReelOfBoxesModel.readTables()I
theorem t_59 {d mc ms : Nat} {Q : aj_Q} {Z : aj_Z} {I : aj_I} {G : aj_G} {o0 : Nat} (k : ∀ J : aj_J, aj_Cl 1 c_59 (some .int) false mc ms none (aj_T d) Q J → J 0 [some (.ref o0), none, none] [] Z I G (0, 0)) : aj_T (d + 1) mc ms 59 [.ref o0] Z I G Q := t_in (b := false) (by rfl) (by decide) (Nat.le_of_ble_eq_true rfl) k
-- ReelOfBoxesModel.perChunk(II)J
theorem t_60 {d mc ms : Nat} {Q : aj_Q} {Z : aj_Z} {I : aj_I} {G : aj_G} {o0 : Nat} {x1 : Int32} {x2 : Int32} (k : ∀ J : aj_J, aj_Cl 1 c_60 (some .long) false mc ms none (aj_T d) Q J → J 0 [some (.ref o0), some (.int x1), some (.int x2), none, none, none] [] Z I G (0, 0)) : aj_T (d + 1) mc ms 60 [.ref o0, .int x1, .int x2] Z I G Q := t_in (b := false) (by rfl) (by decide) (Nat.le_of_ble_eq_true rfl) k
-- ReelOfBoxesModel.sizeOf(II)J
theorem t_61 {d mc ms : Nat} {Q : aj_Q} {Z : aj_Z} {I : aj_I} {G : aj_G} {o0 : Nat} {x1 : Int32} {x2 : Int32} (k : ∀ J : aj_J, aj_Cl 1 c_61 (some .long) false mc ms none (aj_T d) Q J → J 0 [some (.ref o0), some (.int x1), some (.int x2), none, none] [] Z I G (0, 0)) : aj_T (d + 1) mc ms 61 [.ref o0, .int x1, .int x2] Z I G Q := t_in (b := false) (by rfl) (by decide) (Nat.le_of_ble_eq_true rfl) k
-- ReelOfBoxesModel.agrees(I)Z
theorem t_62 {d mc ms : Nat} {Q : aj_Q} {Z : aj_Z} {I : aj_I} {G : aj_G} {o0 : Nat} {x1 : Int32} (k : ∀ J : aj_J, aj_Cl 1 c_62 (some .boolean) false mc ms none (aj_T d) Q J → J 0 [some (.ref o0), some (.int x1), none, none, none, none, none, none, none, none, none, none] [] Z I G (0, 0)) : aj_T (d + 1) mc ms 62 [.ref o0, .int x1] Z I G Q := t_in (b := false) (by rfl) (by decide) (Nat.le_of_ble_eq_true rfl) k
-- ReelOfBoxesModel.findSamples(I)V
theorem t_63 {d mc ms : Nat} {Q : aj_Q} {Z : aj_Z} {I : aj_I} {G : aj_G} {o0 : Nat} {x1 : Int32} (k : ∀ J : aj_J, aj_Cl 1 c_63 (none) false mc ms none (aj_T d) Q J → J 0 [some (.ref o0), some (.int x1), none, none, none, none, none, none] [] Z I G (0, 0)) : aj_T (d + 1) mc ms 63 [.ref o0, .int x1] Z I G Q := t_in (b := false) (by rfl) (by decide) (Nat.le_of_ble_eq_true rfl) k
-- ReelOfBoxesModel.allInData(I)Z
theorem t_64 {d mc ms : Nat} {Q : aj_Q} {Z : aj_Z} {I : aj_I} {G : aj_G} {o0 : Nat} {x1 : Int32} (k : ∀ J : aj_J, aj_Cl 1 c_64 (some .boolean) false mc ms none (aj_T d) Q J → J 0 [some (.ref o0), some (.int x1), none, none] [] Z I G (0, 0)) : aj_T (d + 1) mc ms 64 [.ref o0, .int x1] Z I G Q := t_in (b := false) (by rfl) (by decide) (Nat.le_of_ble_eq_true rfl) k
-- ReelOfBoxesModel.readSamples()I
theorem t_65 {d mc ms : Nat} {Q : aj_Q} {Z : aj_Z} {I : aj_I} {G : aj_G} {o0 : Nat} (k : ∀ J : aj_J, aj_Cl 1 c_65 (some .int) false mc ms none (aj_T d) Q J → J 0 [some (.ref o0), none] [] Z I G (0, 0)) : aj_T (d + 1) mc ms 65 [.ref o0] Z I G Q := t_in (b := false) (by rfl) (by decide) (Nat.le_of_ble_eq_true rfl) k
-- ReelOfBoxesModel.keep()V
theorem t_66 {d mc ms : Nat} {Q : aj_Q} {Z : aj_Z} {I : aj_I} {G : aj_G} {o0 : Nat} (k : ∀ J : aj_J, aj_Cl 1 c_66 (none) false mc ms none (aj_T d) Q J → J 0 [some (.ref o0), none, none, none, none, none] [] Z I G (0, 0)) : aj_T (d + 1) mc ms 66 [.ref o0] Z I G Q := t_in (b := false) (by rfl) (by decide) (Nat.le_of_ble_eq_true rfl) k
-- ReelOfBoxesModel.read()I
theorem t_67 {d mc ms : Nat} {Q : aj_Q} {Z : aj_Z} {I : aj_I} {G : aj_G} {o0 : Nat} (k : ∀ J : aj_J, aj_Cl 1 c_67 (some .int) false mc ms none (aj_T d) Q J → J 0 [some (.ref o0), none] [] Z I G (0, 0)) : aj_T (d + 1) mc ms 67 [.ref o0] Z I G Q := t_in (b := false) (by rfl) (by decide) (Nat.le_of_ble_eq_true rfl) k
-- ReelOfBoxesModel.place()I
theorem t_68 {d mc ms : Nat} {Q : aj_Q} {Z : aj_Z} {I : aj_I} {G : aj_G} {o0 : Nat} (k : ∀ J : aj_J, aj_Cl 1 c_68 (some .int) false mc ms none (aj_T d) Q J → J 0 [some (.ref o0)] [] Z I G (0, 0)) : aj_T (d + 1) mc ms 68 [.ref o0] Z I G Q := t_in (b := false) (by rfl) (by decide) (Nat.le_of_ble_eq_true rfl) k
-- ReelOfBoxesModel.tracks()I
theorem t_69 {d mc ms : Nat} {Q : aj_Q} {Z : aj_Z} {I : aj_I} {G : aj_G} {o0 : Nat} (k : ∀ J : aj_J, aj_Cl 1 c_69 (some .int) false mc ms none (aj_T d) Q J → J 0 [some (.ref o0)] [] Z I G (0, 0)) : aj_T (d + 1) mc ms 69 [.ref o0] Z I G Q := t_in (b := false) (by rfl) (by decide) (Nat.le_of_ble_eq_true rfl) k
-- ReelOfBoxesModel.samples(I)I
theorem t_70 {d mc ms : Nat} {Q : aj_Q} {Z : aj_Z} {I : aj_I} {G : aj_G} {o0 : Nat} {x1 : Int32} (k : ∀ J : aj_J, aj_Cl 1 c_70 (some .int) false mc ms none (aj_T d) Q J → J 0 [some (.ref o0), some (.int x1)] [] Z I G (0, 0)) : aj_T (d + 1) mc ms 70 [.ref o0, .int x1] Z I G Q := t_in (b := false) (by rfl) (by decide) (Nat.le_of_ble_eq_true rfl) k
-- ReelOfBoxesModel.size(II)I
theorem t_71 {d mc ms : Nat} {Q : aj_Q} {Z : aj_Z} {I : aj_I} {G : aj_G} {o0 : Nat} {x1 : Int32} {x2 : Int32} (k : ∀ J : aj_J, aj_Cl 1 c_71 (some .int) false mc ms none (aj_T d) Q J → J 0 [some (.ref o0), some (.int x1), some (.int x2)] [] Z I G (0, 0)) : aj_T (d + 1) mc ms 71 [.ref o0, .int x1, .int x2] Z I G Q := t_in (b := false) (by rfl) (by decide) (Nat.le_of_ble_eq_true rfl) k
-- ReelOfBoxesModel.time(II)J
theorem t_72 {d mc ms : Nat} {Q : aj_Q} {Z : aj_Z} {I : aj_I} {G : aj_G} {o0 : Nat} {x1 : Int32} {x2 : Int32} (k : ∀ J : aj_J, aj_Cl 1 c_72 (some .long) false mc ms none (aj_T d) Q J → J 0 [some (.ref o0), some (.int x1), some (.int x2), none, none, none] [] Z I G (0, 0)) : aj_T (d + 1) mc ms 72 [.ref o0, .int x1, .int x2] Z I G Q := t_in (b := false) (by rfl) (by decide) (Nat.le_of_ble_eq_true rfl) k
-- ReelOfBoxesModel.bytes(II)J
theorem t_73 {d mc ms : Nat} {Q : aj_Q} {Z : aj_Z} {I : aj_I} {G : aj_G} {o0 : Nat} {x1 : Int32} {x2 : Int32} (k : ∀ J : aj_J, aj_Cl 1 c_73 (some .long) false mc ms none (aj_T d) Q J → J 0 [some (.ref o0), some (.int x1), some (.int x2)] [] Z I G (0, 0)) : aj_T (d + 1) mc ms 73 [.ref o0, .int x1, .int x2] Z I G Q := t_in (b := false) (by rfl) (by decide) (Nat.le_of_ble_eq_true rfl) k
-- ReelOfBoxesModel.length()I
theorem t_74 {d mc ms : Nat} {Q : aj_Q} {Z : aj_Z} {I : aj_I} {G : aj_G} {o0 : Nat} (k : ∀ J : aj_J, aj_Cl 1 c_74 (some .int) false mc ms none (aj_T d) Q J → J 0 [some (.ref o0)] [] Z I G (0, 0)) : aj_T (d + 1) mc ms 74 [.ref o0] Z I G Q := t_in (b := false) (by rfl) (by decide) (Nat.le_of_ble_eq_true rfl) k
-- ReelOfBoxesModel.isByte(I)Z
theorem t_75 {d mc ms : Nat} {Q : aj_Q} {Z : aj_Z} {I : aj_I} {G : aj_G} {o0 : Nat} {x1 : Int32} (k : ∀ J : aj_J, aj_Cl 1 c_75 (some .boolean) false mc ms none (aj_T d) Q J → J 0 [some (.ref o0), some (.int x1)] [] Z I G (0, 0)) : aj_T (d + 1) mc ms 75 [.ref o0, .int x1] Z I G Q := t_in (b := false) (by rfl) (by decide) (Nat.le_of_ble_eq_true rfl) k
-- ReelOfBoxesModel.at(I)I
theorem t_76 {d mc ms : Nat} {Q : aj_Q} {Z : aj_Z} {I : aj_I} {G : aj_G} {o0 : Nat} {x1 : Int32} (k : ∀ J : aj_J, aj_Cl 1 c_76 (some .int) false mc ms none (aj_T d) Q J → J 0 [some (.ref o0), some (.int x1)] [] Z I G (0, 0)) : aj_T (d + 1) mc ms 76 [.ref o0, .int x1] Z I G Q := t_in (b := false) (by rfl) (by decide) (Nat.le_of_ble_eq_true rfl) k
-- ReelOfBoxesModel.poke(II)Z
theorem t_77 {d mc ms : Nat} {Q : aj_Q} {Z : aj_Z} {I : aj_I} {G : aj_G} {o0 : Nat} {x1 : Int32} {x2 : Int32} (k : ∀ J : aj_J, aj_Cl 1 c_77 (some .boolean) false mc ms none (aj_T d) Q J → J 0 [some (.ref o0), some (.int x1), some (.int x2)] [] Z I G (0, 0)) : aj_T (d + 1) mc ms 77 [.ref o0, .int x1, .int x2] Z I G Q := t_in (b := false) (by rfl) (by decide) (Nat.le_of_ble_eq_true rfl) k
-- ReelOfBoxesModel.append(JI)I
theorem t_78 {d mc ms : Nat} {Q : aj_Q} {Z : aj_Z} {I : aj_I} {G : aj_G} {o0 : Nat} {x1 : Int64} {x3 : Int32} (k : ∀ J : aj_J, aj_Cl 1 c_78 (some .int) false mc ms none (aj_T d) Q J → J 0 [some (.ref o0), some (.long x1), none, some (.int x3)] [] Z I G (0, 0)) : aj_T (d + 1) mc ms 78 [.ref o0, .long x1, .int x3] Z I G Q := t_in (b := false) (by rfl) (by decide) (Nat.le_of_ble_eq_true rfl) k
-- ReelOfBoxesModel.cut(I)Z
theorem t_79 {d mc ms : Nat} {Q : aj_Q} {Z : aj_Z} {I : aj_I} {G : aj_G} {o0 : Nat} {x1 : Int32} (k : ∀ J : aj_J, aj_Cl 1 c_79 (some .boolean) false mc ms none (aj_T d) Q J → J 0 [some (.ref o0), some (.int x1)] [] Z I G (0, 0)) : aj_T (d + 1) mc ms 79 [.ref o0, .int x1] Z I G Q := t_in (b := false) (by rfl) (by decide) (Nat.le_of_ble_eq_true rfl) k
-- ReelOfBoxes$ByteRow.<init>()V
theorem t_80 {d mc ms : Nat} {Q : aj_Q} {Z : aj_Z} {I : aj_I} {G : aj_G} {o0 : Nat} (k : ∀ J : aj_J, aj_Cl 2 c_80 (none) true mc ms none (aj_T d) Q J → J 0 [some (.ref o0)] [] Z I G (0, 0)) : aj_T (d + 1) mc ms 80 [.ref o0] Z I G Q := t_in (b := true) (by rfl) (by decide) (Nat.le_of_ble_eq_true rfl) k
-- ReelOfBoxes$ByteRow.byteCount()I
theorem t_81 {d mc ms : Nat} {Q : aj_Q} {Z : aj_Z} {I : aj_I} {G : aj_G} {o0 : Nat} (k : ∀ J : aj_J, aj_Cl 2 c_81 (some .int) false mc ms none (aj_T d) Q J → J 0 [some (.ref o0)] [] Z I G (0, 0)) : aj_T (d + 1) mc ms 81 [.ref o0] Z I G Q := t_in (b := false) (by rfl) (by decide) (Nat.le_of_ble_eq_true rfl) k
-- ReelOfBoxes$ByteRow.byteAt(I)I
theorem t_82 {d mc ms : Nat} {Q : aj_Q} {Z : aj_Z} {I : aj_I} {G : aj_G} {o0 : Nat} {x1 : Int32} (k : ∀ J : aj_J, aj_Cl 2 c_82 (some .int) false mc ms none (aj_T d) Q J → J 0 [some (.ref o0), some (.int x1)] [] Z I G (0, 0)) : aj_T (d + 1) mc ms 82 [.ref o0, .int x1] Z I G Q := t_in (b := false) (by rfl) (by decide) (Nat.le_of_ble_eq_true rfl) k
-- ReelOfBoxes$ByteRow.setByte(II)Z
theorem t_83 {d mc ms : Nat} {Q : aj_Q} {Z : aj_Z} {I : aj_I} {G : aj_G} {o0 : Nat} {x1 : Int32} {x2 : Int32} (k : ∀ J : aj_J, aj_Cl 2 c_83 (some .boolean) false mc ms none (aj_T d) Q J → J 0 [some (.ref o0), some (.int x1), some (.int x2)] [] Z I G (0, 0)) : aj_T (d + 1) mc ms 83 [.ref o0, .int x1, .int x2] Z I G Q := t_in (b := false) (by rfl) (by decide) (Nat.le_of_ble_eq_true rfl) k
-- ReelOfBoxes$ByteRow.keepFirst(I)Z
theorem t_84 {d mc ms : Nat} {Q : aj_Q} {Z : aj_Z} {I : aj_I} {G : aj_G} {o0 : Nat} {x1 : Int32} (k : ∀ J : aj_J, aj_Cl 2 c_84 (some .boolean) false mc ms none (aj_T d) Q J → J 0 [some (.ref o0), some (.int x1)] [] Z I G (0, 0)) : aj_T (d + 1) mc ms 84 [.ref o0, .int x1] Z I G Q := t_in (b := false) (by rfl) (by decide) (Nat.le_of_ble_eq_true rfl) k
-- ReelOfBoxes$ByteRow.addNumber(JI)I
theorem t_85 {d mc ms : Nat} {Q : aj_Q} {Z : aj_Z} {I : aj_I} {G : aj_G} {o0 : Nat} {x1 : Int64} {x3 : Int32} (k : ∀ J : aj_J, aj_Cl 2 c_85 (some .int) false mc ms none (aj_T d) Q J → J 0 [some (.ref o0), some (.long x1), none, some (.int x3), none] [] Z I G (0, 0)) : aj_T (d + 1) mc ms 85 [.ref o0, .long x1, .int x3] Z I G Q := t_in (b := false) (by rfl) (by decide) (Nat.le_of_ble_eq_true rfl) k
-- ReelOfBoxes$ByteRow.number(II)J
theorem t_86 {d mc ms : Nat} {Q : aj_Q} {Z : aj_Z} {I : aj_I} {G : aj_G} {o0 : Nat} {x1 : Int32} {x2 : Int32} (k : ∀ J : aj_J, aj_Cl 2 c_86 (some .long) false mc ms none (aj_T d) Q J → J 0 [some (.ref o0), some (.int x1), some (.int x2), none, none, none] [] Z I G (0, 0)) : aj_T (d + 1) mc ms 86 [.ref o0, .int x1, .int x2] Z I G Q := t_in (b := false) (by rfl) (by decide) (Nat.le_of_ble_eq_true rfl) k
-- ReelOfBoxes$ByteRow.lowestFirst(JI)J
theorem t_87 {d mc ms : Nat} {Q : aj_Q} {Z : aj_Z} {I : aj_I} {G : aj_G} {o0 : Nat} {x1 : Int64} {x3 : Int32} (k : ∀ J : aj_J, aj_Cl 2 c_87 (some .long) false mc ms none (aj_T d) Q J → J 0 [some (.ref o0), some (.long x1), none, some (.int x3), none, none, none] [] Z I G (0, 0)) : aj_T (d + 1) mc ms 87 [.ref o0, .long x1, .int x3] Z I G Q := t_in (b := false) (by rfl) (by decide) (Nat.le_of_ble_eq_true rfl) k
-- ReelOfBoxes$Fault.<init>()V
theorem t_88 {d mc ms : Nat} {Q : aj_Q} {Z : aj_Z} {I : aj_I} {G : aj_G} {o0 : Nat} (k : ∀ J : aj_J, aj_Cl 3 c_88 (none) true mc ms none (aj_T d) Q J → J 0 [some (.ref o0)] [] Z I G (0, 0)) : aj_T (d + 1) mc ms 88 [.ref o0] Z I G Q := t_in (b := true) (by rfl) (by decide) (Nat.le_of_ble_eq_true rfl) k
-- ReelOfBoxes$Fault.forget()V
theorem t_89 {d mc ms : Nat} {Q : aj_Q} {Z : aj_Z} {I : aj_I} {G : aj_G} {o0 : Nat} (k : ∀ J : aj_J, aj_Cl 3 c_89 (none) false mc ms none (aj_T d) Q J → J 0 [some (.ref o0)] [] Z I G (0, 0)) : aj_T (d + 1) mc ms 89 [.ref o0] Z I G Q := t_in (b := false) (by rfl) (by decide) (Nat.le_of_ble_eq_true rfl) k
-- ReelOfBoxes$Fault.tell(II)Z
theorem t_90 {d mc ms : Nat} {Q : aj_Q} {Z : aj_Z} {I : aj_I} {G : aj_G} {o0 : Nat} {x1 : Int32} {x2 : Int32} (k : ∀ J : aj_J, aj_Cl 3 c_90 (some .boolean) false mc ms none (aj_T d) Q J → J 0 [some (.ref o0), some (.int x1), some (.int x2)] [] Z I G (0, 0)) : aj_T (d + 1) mc ms 90 [.ref o0, .int x1, .int x2] Z I G Q := t_in (b := false) (by rfl) (by decide) (Nat.le_of_ble_eq_true rfl) k
-- ReelOfBoxes$Finder.<init>(LReelOfBoxes$ByteRow;LReelOfBoxes$Fault;)V
theorem t_91 {d mc ms : Nat} {Q : aj_Q} {Z : aj_Z} {I : aj_I} {G : aj_G} {o0 : Nat} {o1 : Nat} {o2 : Nat} (k : ∀ J : aj_J, aj_Cl 4 c_91 (none) true mc ms none (aj_T d) Q J → J 0 [some (.ref o0), some (.ref o1), some (.ref o2), none] [] Z I G (0, 0)) : aj_T (d + 1) mc ms 91 [.ref o0, .ref o1, .ref o2] Z I G Q := t_in (b := true) (by rfl) (by decide) (Nat.le_of_ble_eq_true rfl) k
-- ReelOfBoxes$Finder.findAll()Z
theorem t_92 {d mc ms : Nat} {Q : aj_Q} {Z : aj_Z} {I : aj_I} {G : aj_G} {o0 : Nat} (k : ∀ J : aj_J, aj_Cl 4 c_92 (some .boolean) false mc ms none (aj_T d) Q J → J 0 [some (.ref o0), none] [] Z I G (0, 0)) : aj_T (d + 1) mc ms 92 [.ref o0] Z I G Q := t_in (b := false) (by rfl) (by decide) (Nat.le_of_ble_eq_true rfl) k
-- ReelOfBoxes$Finder.begin()V
theorem t_93 {d mc ms : Nat} {Q : aj_Q} {Z : aj_Z} {I : aj_I} {G : aj_G} {o0 : Nat} (k : ∀ J : aj_J, aj_Cl 4 c_93 (none) false mc ms none (aj_T d) Q J → J 0 [some (.ref o0)] [] Z I G (0, 0)) : aj_T (d + 1) mc ms 93 [.ref o0] Z I G Q := t_in (b := false) (by rfl) (by decide) (Nat.le_of_ble_eq_true rfl) k
-- ReelOfBoxes$Finder.takeBox()Z
theorem t_94 {d mc ms : Nat} {Q : aj_Q} {Z : aj_Z} {I : aj_I} {G : aj_G} {o0 : Nat} (k : ∀ J : aj_J, aj_Cl 4 c_94 (some .boolean) false mc ms none (aj_T d) Q J → J 0 [some (.ref o0)] [] Z I G (0, 0)) : aj_T (d + 1) mc ms 94 [.ref o0] Z I G Q := t_in (b := false) (by rfl) (by decide) (Nat.le_of_ble_eq_true rfl) k
-- ReelOfBoxes$Finder.readHead(I)Z
theorem t_95 {d mc ms : Nat} {Q : aj_Q} {Z : aj_Z} {I : aj_I} {G : aj_G} {o0 : Nat} {x1 : Int32} (k : ∀ J : aj_J, aj_Cl 4 c_95 (some .boolean) false mc ms none (aj_T d) Q J → J 0 [some (.ref o0), some (.int x1), none, none, none] [] Z I G (0, 0)) : aj_T (d + 1) mc ms 95 [.ref o0, .int x1] Z I G Q := t_in (b := false) (by rfl) (by decide) (Nat.le_of_ble_eq_true rfl) k
-- ReelOfBoxes$Finder.keepBox()Z
theorem t_96 {d mc ms : Nat} {Q : aj_Q} {Z : aj_Z} {I : aj_I} {G : aj_G} {o0 : Nat} (k : ∀ J : aj_J, aj_Cl 4 c_96 (some .boolean) false mc ms none (aj_T d) Q J → J 0 [some (.ref o0)] [] Z I G (0, 0)) : aj_T (d + 1) mc ms 96 [.ref o0] Z I G Q := t_in (b := false) (by rfl) (by decide) (Nat.le_of_ble_eq_true rfl) k
-- ReelOfBoxes$Finder.keepInFile()Z
theorem t_97 {d mc ms : Nat} {Q : aj_Q} {Z : aj_Z} {I : aj_I} {G : aj_G} {o0 : Nat} (k : ∀ J : aj_J, aj_Cl 4 c_97 (some .boolean) false mc ms none (aj_T d) Q J → J 0 [some (.ref o0), none] [] Z I G (0, 0)) : aj_T (d + 1) mc ms 97 [.ref o0] Z I G Q := t_in (b := false) (by rfl) (by decide) (Nat.le_of_ble_eq_true rfl) k
-- ReelOfBoxes$Finder.keepTable()Z
theorem t_98 {d mc ms : Nat} {Q : aj_Q} {Z : aj_Z} {I : aj_I} {G : aj_G} {o0 : Nat} (k : ∀ J : aj_J, aj_Cl 4 c_98 (some .boolean) false mc ms none (aj_T d) Q J → J 0 [some (.ref o0), none] [] Z I G (0, 0)) : aj_T (d + 1) mc ms 98 [.ref o0] Z I G Q := t_in (b := false) (by rfl) (by decide) (Nat.le_of_ble_eq_true rfl) k
-- ReelOfBoxes$Finder.openTrak()Z
theorem t_99 {d mc ms : Nat} {Q : aj_Q} {Z : aj_Z} {I : aj_I} {G : aj_G} {o0 : Nat} (k : ∀ J : aj_J, aj_Cl 4 c_99 (some .boolean) false mc ms none (aj_T d) Q J → J 0 [some (.ref o0)] [] Z I G (0, 0)) : aj_T (d + 1) mc ms 99 [.ref o0] Z I G Q := t_in (b := false) (by rfl) (by decide) (Nat.le_of_ble_eq_true rfl) k
-- ReelOfBoxes$Finder.stepOn()V
theorem t_100 {d mc ms : Nat} {Q : aj_Q} {Z : aj_Z} {I : aj_I} {G : aj_G} {o0 : Nat} (k : ∀ J : aj_J, aj_Cl 4 c_100 (none) false mc ms none (aj_T d) Q J → J 0 [some (.ref o0)] [] Z I G (0, 0)) : aj_T (d + 1) mc ms 100 [.ref o0] Z I G Q := t_in (b := false) (by rfl) (by decide) (Nat.le_of_ble_eq_true rfl) k
-- ReelOfBoxes$Finder.levelIsWhole()Z
theorem t_101 {d mc ms : Nat} {Q : aj_Q} {Z : aj_Z} {I : aj_I} {G : aj_G} {o0 : Nat} (k : ∀ J : aj_J, aj_Cl 4 c_101 (some .boolean) false mc ms none (aj_T d) Q J → J 0 [some (.ref o0)] [] Z I G (0, 0)) : aj_T (d + 1) mc ms 101 [.ref o0] Z I G Q := t_in (b := false) (by rfl) (by decide) (Nat.le_of_ble_eq_true rfl) k
-- ReelOfBoxes$Reader.<init>(LReelOfBoxes$ByteRow;)V
theorem t_102 {d mc ms : Nat} {Q : aj_Q} {Z : aj_Z} {I : aj_I} {G : aj_G} {o0 : Nat} {o1 : Nat} (k : ∀ J : aj_J, aj_Cl 5 c_102 (none) true mc ms none (aj_T d) Q J → J 0 [some (.ref o0), some (.ref o1)] [] Z I G (0, 0)) : aj_T (d + 1) mc ms 102 [.ref o0, .ref o1] Z I G Q := t_in (b := true) (by rfl) (by decide) (Nat.le_of_ble_eq_true rfl) k
-- ReelOfBoxes$Reader.faultPlace()I
theorem t_103 {d mc ms : Nat} {Q : aj_Q} {Z : aj_Z} {I : aj_I} {G : aj_G} {o0 : Nat} (k : ∀ J : aj_J, aj_Cl 5 c_103 (some .int) false mc ms none (aj_T d) Q J → J 0 [some (.ref o0)] [] Z I G (0, 0)) : aj_T (d + 1) mc ms 103 [.ref o0] Z I G Q := t_in (b := false) (by rfl) (by decide) (Nat.le_of_ble_eq_true rfl) k
-- ReelOfBoxes$Reader.readInto(LReelOfBoxes$Reel;)I
theorem t_104 {d mc ms : Nat} {Q : aj_Q} {Z : aj_Z} {I : aj_I} {G : aj_G} {o0 : Nat} {o1 : Nat} (k : ∀ J : aj_J, aj_Cl 5 c_104 (some .int) false mc ms none (aj_T d) Q J → J 0 [some (.ref o0), some (.ref o1)] [] Z I G (0, 0)) : aj_T (d + 1) mc ms 104 [.ref o0, .ref o1] Z I G Q := t_in (b := false) (by rfl) (by decide) (Nat.le_of_ble_eq_true rfl) k
-- ReelOfBoxes$Reader.tablesAreRight()Z
theorem t_105 {d mc ms : Nat} {Q : aj_Q} {Z : aj_Z} {I : aj_I} {G : aj_G} {o0 : Nat} (k : ∀ J : aj_J, aj_Cl 5 c_105 (some .boolean) false mc ms none (aj_T d) Q J → J 0 [some (.ref o0), none, none, none, none] [] Z I G (0, 0)) : aj_T (d + 1) mc ms 105 [.ref o0] Z I G Q := t_in (b := false) (by rfl) (by decide) (Nat.le_of_ble_eq_true rfl) k
-- ReelOfBoxes$Reader.tablesAgree()Z
theorem t_106 {d mc ms : Nat} {Q : aj_Q} {Z : aj_Z} {I : aj_I} {G : aj_G} {o0 : Nat} (k : ∀ J : aj_J, aj_Cl 5 c_106 (some .boolean) false mc ms none (aj_T d) Q J → J 0 [some (.ref o0), none, none] [] Z I G (0, 0)) : aj_T (d + 1) mc ms 106 [.ref o0] Z I G Q := t_in (b := false) (by rfl) (by decide) (Nat.le_of_ble_eq_true rfl) k
-- ReelOfBoxes$Reader.samplesAreInside()Z
theorem t_107 {d mc ms : Nat} {Q : aj_Q} {Z : aj_Z} {I : aj_I} {G : aj_G} {o0 : Nat} (k : ∀ J : aj_J, aj_Cl 5 c_107 (some .boolean) false mc ms none (aj_T d) Q J → J 0 [some (.ref o0), none, none] [] Z I G (0, 0)) : aj_T (d + 1) mc ms 107 [.ref o0] Z I G Q := t_in (b := false) (by rfl) (by decide) (Nat.le_of_ble_eq_true rfl) k
-- ReelOfBoxes$Reader.fillReel(LReelOfBoxes$Reel;)V
theorem t_108 {d mc ms : Nat} {Q : aj_Q} {Z : aj_Z} {I : aj_I} {G : aj_G} {o0 : Nat} {o1 : Nat} (k : ∀ J : aj_J, aj_Cl 5 c_108 (none) false mc ms none (aj_T d) Q J → J 0 [some (.ref o0), some (.ref o1), none, none] [] Z I G (0, 0)) : aj_T (d + 1) mc ms 108 [.ref o0, .ref o1] Z I G Q := t_in (b := false) (by rfl) (by decide) (Nat.le_of_ble_eq_true rfl) k
-- ReelOfBoxes$Reader.fillTrack(LReelOfBoxes$Track;LReelOfBoxes$TrackBoxes;)V
theorem t_109 {d mc ms : Nat} {Q : aj_Q} {Z : aj_Z} {I : aj_I} {G : aj_G} {o0 : Nat} {o1 : Nat} {o2 : Nat} (k : ∀ J : aj_J, aj_Cl 5 c_109 (none) false mc ms none (aj_T d) Q J → J 0 [some (.ref o0), some (.ref o1), some (.ref o2), none, none] [] Z I G (0, 0)) : aj_T (d + 1) mc ms 109 [.ref o0, .ref o1, .ref o2] Z I G Q := t_in (b := false) (by rfl) (by decide) (Nat.le_of_ble_eq_true rfl) k
-- ReelOfBoxes$Reel.<init>()V
theorem t_110 {d mc ms : Nat} {Q : aj_Q} {Z : aj_Z} {I : aj_I} {G : aj_G} {o0 : Nat} (k : ∀ J : aj_J, aj_Cl 6 c_110 (none) true mc ms none (aj_T d) Q J → J 0 [some (.ref o0), none] [] Z I G (0, 0)) : aj_T (d + 1) mc ms 110 [.ref o0] Z I G Q := t_in (b := true) (by rfl) (by decide) (Nat.le_of_ble_eq_true rfl) k
-- ReelOfBoxes$Reel.trackCount()I
theorem t_111 {d mc ms : Nat} {Q : aj_Q} {Z : aj_Z} {I : aj_I} {G : aj_G} {o0 : Nat} (k : ∀ J : aj_J, aj_Cl 6 c_111 (some .int) false mc ms none (aj_T d) Q J → J 0 [some (.ref o0)] [] Z I G (0, 0)) : aj_T (d + 1) mc ms 111 [.ref o0] Z I G Q := t_in (b := false) (by rfl) (by decide) (Nat.le_of_ble_eq_true rfl) k
-- ReelOfBoxes$Reel.find(I)LReelOfBoxes$Track;
theorem t_112 {d mc ms : Nat} {Q : aj_Q} {Z : aj_Z} {I : aj_I} {G : aj_G} {o0 : Nat} {x1 : Int32} (k : ∀ J : aj_J, aj_Cl 6 c_112 (some (.object "ReelOfBoxes$Track")) false mc ms none (aj_T d) Q J → J 0 [some (.ref o0), some (.int x1)] [] Z I G (0, 0)) : aj_T (d + 1) mc ms 112 [.ref o0, .int x1] Z I G Q := t_in (b := false) (by rfl) (by decide) (Nat.le_of_ble_eq_true rfl) k
-- ReelOfBoxes$Reel.openTrack()I
theorem t_113 {d mc ms : Nat} {Q : aj_Q} {Z : aj_Z} {I : aj_I} {G : aj_G} {o0 : Nat} (k : ∀ J : aj_J, aj_Cl 6 c_113 (some .int) false mc ms none (aj_T d) Q J → J 0 [some (.ref o0)] [] Z I G (0, 0)) : aj_T (d + 1) mc ms 113 [.ref o0] Z I G Q := t_in (b := false) (by rfl) (by decide) (Nat.le_of_ble_eq_true rfl) k
-- ReelOfBoxes$Reel.makeEmpty()I
theorem t_114 {d mc ms : Nat} {Q : aj_Q} {Z : aj_Z} {I : aj_I} {G : aj_G} {o0 : Nat} (k : ∀ J : aj_J, aj_Cl 6 c_114 (some .int) false mc ms none (aj_T d) Q J → J 0 [some (.ref o0), none] [] Z I G (0, 0)) : aj_T (d + 1) mc ms 114 [.ref o0] Z I G Q := t_in (b := false) (by rfl) (by decide) (Nat.le_of_ble_eq_true rfl) k
-- ReelOfBoxes$Table.<init>(LReelOfBoxes$ByteRow;)V
theorem t_115 {d mc ms : Nat} {Q : aj_Q} {Z : aj_Z} {I : aj_I} {G : aj_G} {o0 : Nat} {o1 : Nat} (k : ∀ J : aj_J, aj_Cl 7 c_115 (none) true mc ms none (aj_T d) Q J → J 0 [some (.ref o0), some (.ref o1)] [] Z I G (0, 0)) : aj_T (d + 1) mc ms 115 [.ref o0, .ref o1] Z I G Q := t_in (b := true) (by rfl) (by decide) (Nat.le_of_ble_eq_true rfl) k
-- ReelOfBoxes$Table.forget()V
theorem t_116 {d mc ms : Nat} {Q : aj_Q} {Z : aj_Z} {I : aj_I} {G : aj_G} {o0 : Nat} (k : ∀ J : aj_J, aj_Cl 7 c_116 (none) false mc ms none (aj_T d) Q J → J 0 [some (.ref o0)] [] Z I G (0, 0)) : aj_T (d + 1) mc ms 116 [.ref o0] Z I G Q := t_in (b := false) (by rfl) (by decide) (Nat.le_of_ble_eq_true rfl) k
-- ReelOfBoxes$Table.isFound()Z
theorem t_117 {d mc ms : Nat} {Q : aj_Q} {Z : aj_Z} {I : aj_I} {G : aj_G} {o0 : Nat} (k : ∀ J : aj_J, aj_Cl 7 c_117 (some .boolean) false mc ms none (aj_T d) Q J → J 0 [some (.ref o0)] [] Z I G (0, 0)) : aj_T (d + 1) mc ms 117 [.ref o0] Z I G Q := t_in (b := false) (by rfl) (by decide) (Nat.le_of_ble_eq_true rfl) k
-- ReelOfBoxes$Table.find(IIII)V
theorem t_118 {d mc ms : Nat} {Q : aj_Q} {Z : aj_Z} {I : aj_I} {G : aj_G} {o0 : Nat} {x1 : Int32} {x2 : Int32} {x3 : Int32} {x4 : Int32} (k : ∀ J : aj_J, aj_Cl 7 c_118 (none) false mc ms none (aj_T d) Q J → J 0 [some (.ref o0), some (.int x1), some (.int x2), some (.int x3), some (.int x4)] [] Z I G (0, 0)) : aj_T (d + 1) mc ms 118 [.ref o0, .int x1, .int x2, .int x3, .int x4] Z I G Q := t_in (b := false) (by rfl) (by decide) (Nat.le_of_ble_eq_true rfl) k
-- ReelOfBoxes$Table.widthOfEntry(I)I
theorem t_119 {d mc ms : Nat} {Q : aj_Q} {Z : aj_Z} {I : aj_I} {G : aj_G} {x0 : Int32} (k : ∀ J : aj_J, aj_Cl 7 c_119 (some .int) false mc ms none (aj_T d) Q J → J 0 [some (.int x0)] [] Z I G (0, 0)) : aj_T (d + 1) mc ms 119 [.int x0] Z I G Q := t_in (b := false) (by rfl) (by decide) (Nat.le_of_ble_eq_true rfl) k
-- ReelOfBoxes$Table.told()J
theorem t_120 {d mc ms : Nat} {Q : aj_Q} {Z : aj_Z} {I : aj_I} {G : aj_G} {o0 : Nat} (k : ∀ J : aj_J, aj_Cl 7 c_120 (some .long) false mc ms none (aj_T d) Q J → J 0 [some (.ref o0)] [] Z I G (0, 0)) : aj_T (d + 1) mc ms 120 [.ref o0] Z I G Q := t_in (b := false) (by rfl) (by decide) (Nat.le_of_ble_eq_true rfl) k
-- ReelOfBoxes$Table.sizeForAll()J
theorem t_121 {d mc ms : Nat} {Q : aj_Q} {Z : aj_Z} {I : aj_I} {G : aj_G} {o0 : Nat} (k : ∀ J : aj_J, aj_Cl 7 c_121 (some .long) false mc ms none (aj_T d) Q J → J 0 [some (.ref o0)] [] Z I G (0, 0)) : aj_T (d + 1) mc ms 121 [.ref o0] Z I G Q := t_in (b := false) (by rfl) (by decide) (Nat.le_of_ble_eq_true rfl) k
-- ReelOfBoxes$Table.listed()I
theorem t_122 {d mc ms : Nat} {Q : aj_Q} {Z : aj_Z} {I : aj_I} {G : aj_G} {o0 : Nat} (k : ∀ J : aj_J, aj_Cl 7 c_122 (some .int) false mc ms none (aj_T d) Q J → J 0 [some (.ref o0), none] [] Z I G (0, 0)) : aj_T (d + 1) mc ms 122 [.ref o0] Z I G Q := t_in (b := false) (by rfl) (by decide) (Nat.le_of_ble_eq_true rfl) k
-- ReelOfBoxes$Table.entryNumber(II)J
theorem t_123 {d mc ms : Nat} {Q : aj_Q} {Z : aj_Z} {I : aj_I} {G : aj_G} {o0 : Nat} {x1 : Int32} {x2 : Int32} (k : ∀ J : aj_J, aj_Cl 7 c_123 (some .long) false mc ms none (aj_T d) Q J → J 0 [some (.ref o0), some (.int x1), some (.int x2), none] [] Z I G (0, 0)) : aj_T (d + 1) mc ms 123 [.ref o0, .int x1, .int x2] Z I G Q := t_in (b := false) (by rfl) (by decide) (Nat.le_of_ble_eq_true rfl) k
-- ReelOfBoxes$Table.ownFault()I
theorem t_124 {d mc ms : Nat} {Q : aj_Q} {Z : aj_Z} {I : aj_I} {G : aj_G} {o0 : Nat} (k : ∀ J : aj_J, aj_Cl 7 c_124 (some .int) false mc ms none (aj_T d) Q J → J 0 [some (.ref o0), none, none] [] Z I G (0, 0)) : aj_T (d + 1) mc ms 124 [.ref o0] Z I G Q := t_in (b := false) (by rfl) (by decide) (Nat.le_of_ble_eq_true rfl) k
-- ReelOfBoxes$Table.lengthIsRight()Z
theorem t_125 {d mc ms : Nat} {Q : aj_Q} {Z : aj_Z} {I : aj_I} {G : aj_G} {o0 : Nat} (k : ∀ J : aj_J, aj_Cl 7 c_125 (some .boolean) false mc ms none (aj_T d) Q J → J 0 [some (.ref o0), none, none, none, none] [] Z I G (0, 0)) : aj_T (d + 1) mc ms 125 [.ref o0] Z I G Q := t_in (b := false) (by rfl) (by decide) (Nat.le_of_ble_eq_true rfl) k
-- ReelOfBoxes$Table.headIsRight()Z
theorem t_126 {d mc ms : Nat} {Q : aj_Q} {Z : aj_Z} {I : aj_I} {G : aj_G} {o0 : Nat} (k : ∀ J : aj_J, aj_Cl 7 c_126 (some .boolean) false mc ms none (aj_T d) Q J → J 0 [some (.ref o0)] [] Z I G (0, 0)) : aj_T (d + 1) mc ms 126 [.ref o0] Z I G Q := t_in (b := false) (by rfl) (by decide) (Nat.le_of_ble_eq_true rfl) k
-- ReelOfBoxes$Table.entryIsRight(I)Z
theorem t_127 {d mc ms : Nat} {Q : aj_Q} {Z : aj_Z} {I : aj_I} {G : aj_G} {o0 : Nat} {x1 : Int32} (k : ∀ J : aj_J, aj_Cl 7 c_127 (some .boolean) false mc ms none (aj_T d) Q J → J 0 [some (.ref o0), some (.int x1), none, none] [] Z I G (0, 0)) : aj_T (d + 1) mc ms 127 [.ref o0, .int x1] Z I G Q := t_in (b := false) (by rfl) (by decide) (Nat.le_of_ble_eq_true rfl) k
-- ReelOfBoxes$Table.isCount(J)Z
theorem t_128 {d mc ms : Nat} {Q : aj_Q} {Z : aj_Z} {I : aj_I} {G : aj_G} {x0 : Int64} (k : ∀ J : aj_J, aj_Cl 7 c_128 (some .boolean) false mc ms none (aj_T d) Q J → J 0 [some (.long x0), none] [] Z I G (0, 0)) : aj_T (d + 1) mc ms 128 [.long x0] Z I G Q := t_in (b := false) (by rfl) (by decide) (Nat.le_of_ble_eq_true rfl) k
-- ReelOfBoxes$Track.<init>()V
theorem t_129 {d mc ms : Nat} {Q : aj_Q} {Z : aj_Z} {I : aj_I} {G : aj_G} {o0 : Nat} (k : ∀ J : aj_J, aj_Cl 8 c_129 (none) true mc ms none (aj_T d) Q J → J 0 [some (.ref o0)] [] Z I G (0, 0)) : aj_T (d + 1) mc ms 129 [.ref o0] Z I G Q := t_in (b := true) (by rfl) (by decide) (Nat.le_of_ble_eq_true rfl) k
-- ReelOfBoxes$Track.sampleCount()I
theorem t_130 {d mc ms : Nat} {Q : aj_Q} {Z : aj_Z} {I : aj_I} {G : aj_G} {o0 : Nat} (k : ∀ J : aj_J, aj_Cl 8 c_130 (some .int) false mc ms none (aj_T d) Q J → J 0 [some (.ref o0)] [] Z I G (0, 0)) : aj_T (d + 1) mc ms 130 [.ref o0] Z I G Q := t_in (b := false) (by rfl) (by decide) (Nat.le_of_ble_eq_true rfl) k
-- ReelOfBoxes$Track.dropSamples()V
theorem t_131 {d mc ms : Nat} {Q : aj_Q} {Z : aj_Z} {I : aj_I} {G : aj_G} {o0 : Nat} (k : ∀ J : aj_J, aj_Cl 8 c_131 (none) false mc ms none (aj_T d) Q J → J 0 [some (.ref o0)] [] Z I G (0, 0)) : aj_T (d + 1) mc ms 131 [.ref o0] Z I G Q := t_in (b := false) (by rfl) (by decide) (Nat.le_of_ble_eq_true rfl) k
-- ReelOfBoxes$Track.addSample(IJI)I
theorem t_132 {d mc ms : Nat} {Q : aj_Q} {Z : aj_Z} {I : aj_I} {G : aj_G} {o0 : Nat} {x1 : Int32} {x2 : Int64} {x4 : Int32} (k : ∀ J : aj_J, aj_Cl 8 c_132 (some .int) false mc ms none (aj_T d) Q J → J 0 [some (.ref o0), some (.int x1), some (.long x2), none, some (.int x4)] [] Z I G (0, 0)) : aj_T (d + 1) mc ms 132 [.ref o0, .int x1, .long x2, .int x4] Z I G Q := t_in (b := false) (by rfl) (by decide) (Nat.le_of_ble_eq_true rfl) k
-- ReelOfBoxes$Track.sizeOf(I)I
theorem t_133 {d mc ms : Nat} {Q : aj_Q} {Z : aj_Z} {I : aj_I} {G : aj_G} {o0 : Nat} {x1 : Int32} (k : ∀ J : aj_J, aj_Cl 8 c_133 (some .int) false mc ms none (aj_T d) Q J → J 0 [some (.ref o0), some (.int x1)] [] Z I G (0, 0)) : aj_T (d + 1) mc ms 133 [.ref o0, .int x1] Z I G Q := t_in (b := false) (by rfl) (by decide) (Nat.le_of_ble_eq_true rfl) k
-- ReelOfBoxes$Track.durationOf(I)I
theorem t_134 {d mc ms : Nat} {Q : aj_Q} {Z : aj_Z} {I : aj_I} {G : aj_G} {o0 : Nat} {x1 : Int32} (k : ∀ J : aj_J, aj_Cl 8 c_134 (some .int) false mc ms none (aj_T d) Q J → J 0 [some (.ref o0), some (.int x1)] [] Z I G (0, 0)) : aj_T (d + 1) mc ms 134 [.ref o0, .int x1] Z I G Q := t_in (b := false) (by rfl) (by decide) (Nat.le_of_ble_eq_true rfl) k
-- ReelOfBoxes$Track.bytesOf(I)J
theorem t_135 {d mc ms : Nat} {Q : aj_Q} {Z : aj_Z} {I : aj_I} {G : aj_G} {o0 : Nat} {x1 : Int32} (k : ∀ J : aj_J, aj_Cl 8 c_135 (some .long) false mc ms none (aj_T d) Q J → J 0 [some (.ref o0), some (.int x1)] [] Z I G (0, 0)) : aj_T (d + 1) mc ms 135 [.ref o0, .int x1] Z I G Q := t_in (b := false) (by rfl) (by decide) (Nat.le_of_ble_eq_true rfl) k
-- ReelOfBoxes$Track.timeOf(I)J
theorem t_136 {d mc ms : Nat} {Q : aj_Q} {Z : aj_Z} {I : aj_I} {G : aj_G} {o0 : Nat} {x1 : Int32} (k : ∀ J : aj_J, aj_Cl 8 c_136 (some .long) false mc ms none (aj_T d) Q J → J 0 [some (.ref o0), some (.int x1), none, none, none] [] Z I G (0, 0)) : aj_T (d + 1) mc ms 136 [.ref o0, .int x1] Z I G Q := t_in (b := false) (by rfl) (by decide) (Nat.le_of_ble_eq_true rfl) k
-- ReelOfBoxes$Track.lowestBytes(JI)J
theorem t_137 {d mc ms : Nat} {Q : aj_Q} {Z : aj_Z} {I : aj_I} {G : aj_G} {x0 : Int64} {x2 : Int32} (k : ∀ J : aj_J, aj_Cl 8 c_137 (some .long) false mc ms none (aj_T d) Q J → J 0 [some (.long x0), none, some (.int x2)] [] Z I G (0, 0)) : aj_T (d + 1) mc ms 137 [.long x0, .int x2] Z I G Q := t_in (b := false) (by rfl) (by decide) (Nat.le_of_ble_eq_true rfl) k
-- ReelOfBoxes$TrackBoxes.<init>(LReelOfBoxes$ByteRow;)V
theorem t_138 {d mc ms : Nat} {Q : aj_Q} {Z : aj_Z} {I : aj_I} {G : aj_G} {o0 : Nat} {o1 : Nat} (k : ∀ J : aj_J, aj_Cl 9 c_138 (none) true mc ms none (aj_T d) Q J → J 0 [some (.ref o0), some (.ref o1), none] [] Z I G (0, 0)) : aj_T (d + 1) mc ms 138 [.ref o0, .ref o1] Z I G Q := t_in (b := true) (by rfl) (by decide) (Nat.le_of_ble_eq_true rfl) k
-- ReelOfBoxes$TrackBoxes.forget()V
theorem t_139 {d mc ms : Nat} {Q : aj_Q} {Z : aj_Z} {I : aj_I} {G : aj_G} {o0 : Nat} (k : ∀ J : aj_J, aj_Cl 9 c_139 (none) false mc ms none (aj_T d) Q J → J 0 [some (.ref o0), none] [] Z I G (0, 0)) : aj_T (d + 1) mc ms 139 [.ref o0] Z I G Q := t_in (b := false) (by rfl) (by decide) (Nat.le_of_ble_eq_true rfl) k
-- ReelOfBoxes$TrackBoxes.hasStbl()Z
theorem t_140 {d mc ms : Nat} {Q : aj_Q} {Z : aj_Z} {I : aj_I} {G : aj_G} {o0 : Nat} (k : ∀ J : aj_J, aj_Cl 9 c_140 (some .boolean) false mc ms none (aj_T d) Q J → J 0 [some (.ref o0)] [] Z I G (0, 0)) : aj_T (d + 1) mc ms 140 [.ref o0] Z I G Q := t_in (b := false) (by rfl) (by decide) (Nat.le_of_ble_eq_true rfl) k
-- ReelOfBoxes$TrackBoxes.takeStbl(I)Z
theorem t_141 {d mc ms : Nat} {Q : aj_Q} {Z : aj_Z} {I : aj_I} {G : aj_G} {o0 : Nat} {x1 : Int32} (k : ∀ J : aj_J, aj_Cl 9 c_141 (some .boolean) false mc ms none (aj_T d) Q J → J 0 [some (.ref o0), some (.int x1)] [] Z I G (0, 0)) : aj_T (d + 1) mc ms 141 [.ref o0, .int x1] Z I G Q := t_in (b := false) (by rfl) (by decide) (Nat.le_of_ble_eq_true rfl) k
-- ReelOfBoxes$TrackBoxes.tableFor(I)LReelOfBoxes$Table;
theorem t_142 {d mc ms : Nat} {Q : aj_Q} {Z : aj_Z} {I : aj_I} {G : aj_G} {o0 : Nat} {x1 : Int32} (k : ∀ J : aj_J, aj_Cl 9 c_142 (some (.object "ReelOfBoxes$Table")) false mc ms none (aj_T d) Q J → J 0 [some (.ref o0), some (.int x1), none] [] Z I G (0, 0)) : aj_T (d + 1) mc ms 142 [.ref o0, .int x1] Z I G Q := t_in (b := false) (by rfl) (by decide) (Nat.le_of_ble_eq_true rfl) k
-- ReelOfBoxes$TrackBoxes.hasAllTables()Z
theorem t_143 {d mc ms : Nat} {Q : aj_Q} {Z : aj_Z} {I : aj_I} {G : aj_G} {o0 : Nat} (k : ∀ J : aj_J, aj_Cl 9 c_143 (some .boolean) false mc ms none (aj_T d) Q J → J 0 [some (.ref o0), none] [] Z I G (0, 0)) : aj_T (d + 1) mc ms 143 [.ref o0] Z I G Q := t_in (b := false) (by rfl) (by decide) (Nat.le_of_ble_eq_true rfl) k
-- ReelOfBoxes$TrackBoxes.tablesAgree()Z
theorem t_144 {d mc ms : Nat} {Q : aj_Q} {Z : aj_Z} {I : aj_I} {G : aj_G} {o0 : Nat} (k : ∀ J : aj_J, aj_Cl 9 c_144 (some .boolean) false mc ms none (aj_T d) Q J → J 0 [some (.ref o0), none, none, none, none] [] Z I G (0, 0)) : aj_T (d + 1) mc ms 144 [.ref o0] Z I G Q := t_in (b := false) (by rfl) (by decide) (Nat.le_of_ble_eq_true rfl) k
-- ReelOfBoxes$TrackBoxes.samplesOfStts()J
theorem t_145 {d mc ms : Nat} {Q : aj_Q} {Z : aj_Z} {I : aj_I} {G : aj_G} {o0 : Nat} (k : ∀ J : aj_J, aj_Cl 9 c_145 (some .long) false mc ms none (aj_T d) Q J → J 0 [some (.ref o0), none, none, none, none, none] [] Z I G (0, 0)) : aj_T (d + 1) mc ms 145 [.ref o0] Z I G Q := t_in (b := false) (by rfl) (by decide) (Nat.le_of_ble_eq_true rfl) k
-- ReelOfBoxes$TrackBoxes.sizeToldOf(I)J
theorem t_146 {d mc ms : Nat} {Q : aj_Q} {Z : aj_Z} {I : aj_I} {G : aj_G} {o0 : Nat} {x1 : Int32} (k : ∀ J : aj_J, aj_Cl 9 c_146 (some .long) false mc ms none (aj_T d) Q J → J 0 [some (.ref o0), some (.int x1), none, none] [] Z I G (0, 0)) : aj_T (d + 1) mc ms 146 [.ref o0, .int x1] Z I G Q := t_in (b := false) (by rfl) (by decide) (Nat.le_of_ble_eq_true rfl) k
-- ReelOfBoxes$TrackBoxes.sizesAreSmall(I)Z
theorem t_147 {d mc ms : Nat} {Q : aj_Q} {Z : aj_Z} {I : aj_I} {G : aj_G} {o0 : Nat} {x1 : Int32} (k : ∀ J : aj_J, aj_Cl 9 c_147 (some .boolean) false mc ms none (aj_T d) Q J → J 0 [some (.ref o0), some (.int x1), none] [] Z I G (0, 0)) : aj_T (d + 1) mc ms 147 [.ref o0, .int x1] Z I G Q := t_in (b := false) (by rfl) (by decide) (Nat.le_of_ble_eq_true rfl) k
-- ReelOfBoxes$TrackBoxes.entriesMeetChunks(I)Z
theorem t_148 {d mc ms : Nat} {Q : aj_Q} {Z : aj_Z} {I : aj_I} {G : aj_G} {o0 : Nat} {x1 : Int32} (k : ∀ J : aj_J, aj_Cl 9 c_148 (some .boolean) false mc ms none (aj_T d) Q J → J 0 [some (.ref o0), some (.int x1), none] [] Z I G (0, 0)) : aj_T (d + 1) mc ms 148 [.ref o0, .int x1] Z I G Q := t_in (b := false) (by rfl) (by decide) (Nat.le_of_ble_eq_true rfl) k
-- ReelOfBoxes$TrackBoxes.samplesOfChunks(I)J
theorem t_149 {d mc ms : Nat} {Q : aj_Q} {Z : aj_Z} {I : aj_I} {G : aj_G} {o0 : Nat} {x1 : Int32} (k : ∀ J : aj_J, aj_Cl 9 c_149 (some .long) false mc ms none (aj_T d) Q J → J 0 [some (.ref o0), some (.int x1), none, none, none, none, none, none, none] [] Z I G (0, 0)) : aj_T (d + 1) mc ms 149 [.ref o0, .int x1] Z I G Q := t_in (b := false) (by rfl) (by decide) (Nat.le_of_ble_eq_true rfl) k
-- ReelOfBoxes$TrackBoxes.unfold()V
theorem t_150 {d mc ms : Nat} {Q : aj_Q} {Z : aj_Z} {I : aj_I} {G : aj_G} {o0 : Nat} (k : ∀ J : aj_J, aj_Cl 9 c_150 (none) false mc ms none (aj_T d) Q J → J 0 [some (.ref o0), none] [] Z I G (0, 0)) : aj_T (d + 1) mc ms 150 [.ref o0] Z I G Q := t_in (b := false) (by rfl) (by decide) (Nat.le_of_ble_eq_true rfl) k
-- ReelOfBoxes$TrackBoxes.unfoldDurations()V
theorem t_151 {d mc ms : Nat} {Q : aj_Q} {Z : aj_Z} {I : aj_I} {G : aj_G} {o0 : Nat} (k : ∀ J : aj_J, aj_Cl 9 c_151 (none) false mc ms none (aj_T d) Q J → J 0 [some (.ref o0), none, none, none, none, none, none, none] [] Z I G (0, 0)) : aj_T (d + 1) mc ms 151 [.ref o0] Z I G Q := t_in (b := false) (by rfl) (by decide) (Nat.le_of_ble_eq_true rfl) k
-- ReelOfBoxes$TrackBoxes.unfoldBegins()V
theorem t_152 {d mc ms : Nat} {Q : aj_Q} {Z : aj_Z} {I : aj_I} {G : aj_G} {o0 : Nat} (k : ∀ J : aj_J, aj_Cl 9 c_152 (none) false mc ms none (aj_T d) Q J → J 0 [some (.ref o0), none, none, none, none, none, none, none, none, none, none, none] [] Z I G (0, 0)) : aj_T (d + 1) mc ms 152 [.ref o0] Z I G Q := t_in (b := false) (by rfl) (by decide) (Nat.le_of_ble_eq_true rfl) k
-- ReelOfBoxes$TrackBoxes.samplesLieIn(II)Z
theorem t_153 {d mc ms : Nat} {Q : aj_Q} {Z : aj_Z} {I : aj_I} {G : aj_G} {o0 : Nat} {x1 : Int32} {x2 : Int32} (k : ∀ J : aj_J, aj_Cl 9 c_153 (some .boolean) false mc ms none (aj_T d) Q J → J 0 [some (.ref o0), some (.int x1), some (.int x2), none] [] Z I G (0, 0)) : aj_T (d + 1) mc ms 153 [.ref o0, .int x1, .int x2] Z I G Q := t_in (b := false) (by rfl) (by decide) (Nat.le_of_ble_eq_true rfl) k
-- ReelOfBoxes$Writer.<init>(LReelOfBoxes$Reel;LReelOfBoxes$ByteRow;)V
theorem t_154 {d mc ms : Nat} {Q : aj_Q} {Z : aj_Z} {I : aj_I} {G : aj_G} {o0 : Nat} {o1 : Nat} {o2 : Nat} (k : ∀ J : aj_J, aj_Cl 10 c_154 (none) true mc ms none (aj_T d) Q J → J 0 [some (.ref o0), some (.ref o1), some (.ref o2)] [] Z I G (0, 0)) : aj_T (d + 1) mc ms 154 [.ref o0, .ref o1, .ref o2] Z I G Q := t_in (b := true) (by rfl) (by decide) (Nat.le_of_ble_eq_true rfl) k
-- ReelOfBoxes$Writer.writeReel(II)I
theorem t_155 {d mc ms : Nat} {Q : aj_Q} {Z : aj_Z} {I : aj_I} {G : aj_G} {o0 : Nat} {x1 : Int32} {x2 : Int32} (k : ∀ J : aj_J, aj_Cl 10 c_155 (some .int) false mc ms none (aj_T d) Q J → J 0 [some (.ref o0), some (.int x1), some (.int x2), none, none] [] Z I G (0, 0)) : aj_T (d + 1) mc ms 155 [.ref o0, .int x1, .int x2] Z I G Q := t_in (b := false) (by rfl) (by decide) (Nat.le_of_ble_eq_true rfl) k
-- ReelOfBoxes$Writer.chunkCount(LReelOfBoxes$Track;)I
theorem t_156 {d mc ms : Nat} {Q : aj_Q} {Z : aj_Z} {I : aj_I} {G : aj_G} {o0 : Nat} {o1 : Nat} (k : ∀ J : aj_J, aj_Cl 10 c_156 (some .int) false mc ms none (aj_T d) Q J → J 0 [some (.ref o0), some (.ref o1)] [] Z I G (0, 0)) : aj_T (d + 1) mc ms 156 [.ref o0, .ref o1] Z I G Q := t_in (b := false) (by rfl) (by decide) (Nat.le_of_ble_eq_true rfl) k
-- ReelOfBoxes$Writer.chunkEnd(LReelOfBoxes$Track;I)I
theorem t_157 {d mc ms : Nat} {Q : aj_Q} {Z : aj_Z} {I : aj_I} {G : aj_G} {o0 : Nat} {o1 : Nat} {x2 : Int32} (k : ∀ J : aj_J, aj_Cl 10 c_157 (some .int) false mc ms none (aj_T d) Q J → J 0 [some (.ref o0), some (.ref o1), some (.int x2)] [] Z I G (0, 0)) : aj_T (d + 1) mc ms 157 [.ref o0, .ref o1, .int x2] Z I G Q := t_in (b := false) (by rfl) (by decide) (Nat.le_of_ble_eq_true rfl) k
-- ReelOfBoxes$Writer.beginsRow(LReelOfBoxes$Track;I)Z
theorem t_158 {d mc ms : Nat} {Q : aj_Q} {Z : aj_Z} {I : aj_I} {G : aj_G} {o0 : Nat} {o1 : Nat} {x2 : Int32} (k : ∀ J : aj_J, aj_Cl 10 c_158 (some .boolean) false mc ms none (aj_T d) Q J → J 0 [some (.ref o0), some (.ref o1), some (.int x2)] [] Z I G (0, 0)) : aj_T (d + 1) mc ms 158 [.ref o0, .ref o1, .int x2] Z I G Q := t_in (b := false) (by rfl) (by decide) (Nat.le_of_ble_eq_true rfl) k
-- ReelOfBoxes$Writer.rowFrom(LReelOfBoxes$Track;I)I
theorem t_159 {d mc ms : Nat} {Q : aj_Q} {Z : aj_Z} {I : aj_I} {G : aj_G} {o0 : Nat} {o1 : Nat} {x2 : Int32} (k : ∀ J : aj_J, aj_Cl 10 c_159 (some .int) false mc ms none (aj_T d) Q J → J 0 [some (.ref o0), some (.ref o1), some (.int x2), none, none] [] Z I G (0, 0)) : aj_T (d + 1) mc ms 159 [.ref o0, .ref o1, .int x2] Z I G Q := t_in (b := false) (by rfl) (by decide) (Nat.le_of_ble_eq_true rfl) k
-- ReelOfBoxes$Writer.sttsEntries(LReelOfBoxes$Track;)I
theorem t_160 {d mc ms : Nat} {Q : aj_Q} {Z : aj_Z} {I : aj_I} {G : aj_G} {o0 : Nat} {o1 : Nat} (k : ∀ J : aj_J, aj_Cl 10 c_160 (some .int) false mc ms none (aj_T d) Q J → J 0 [some (.ref o0), some (.ref o1), none, none, none] [] Z I G (0, 0)) : aj_T (d + 1) mc ms 160 [.ref o0, .ref o1] Z I G Q := t_in (b := false) (by rfl) (by decide) (Nat.le_of_ble_eq_true rfl) k
-- ReelOfBoxes$Writer.stscEntries(LReelOfBoxes$Track;)I
theorem t_161 {d mc ms : Nat} {Q : aj_Q} {Z : aj_Z} {I : aj_I} {G : aj_G} {o0 : Nat} {o1 : Nat} (k : ∀ J : aj_J, aj_Cl 10 c_161 (some .int) false mc ms none (aj_T d) Q J → J 0 [some (.ref o0), some (.ref o1), none] [] Z I G (0, 0)) : aj_T (d + 1) mc ms 161 [.ref o0, .ref o1] Z I G Q := t_in (b := false) (by rfl) (by decide) (Nat.le_of_ble_eq_true rfl) k
-- ReelOfBoxes$Writer.placeWidth()I
theorem t_162 {d mc ms : Nat} {Q : aj_Q} {Z : aj_Z} {I : aj_I} {G : aj_G} {o0 : Nat} (k : ∀ J : aj_J, aj_Cl 10 c_162 (some .int) false mc ms none (aj_T d) Q J → J 0 [some (.ref o0)] [] Z I G (0, 0)) : aj_T (d + 1) mc ms 162 [.ref o0] Z I G Q := t_in (b := false) (by rfl) (by decide) (Nat.le_of_ble_eq_true rfl) k
-- ReelOfBoxes$Writer.tableSize(II)I
theorem t_163 {d mc ms : Nat} {Q : aj_Q} {Z : aj_Z} {I : aj_I} {G : aj_G} {x0 : Int32} {x1 : Int32} (k : ∀ J : aj_J, aj_Cl 10 c_163 (some .int) false mc ms none (aj_T d) Q J → J 0 [some (.int x0), some (.int x1)] [] Z I G (0, 0)) : aj_T (d + 1) mc ms 163 [.int x0, .int x1] Z I G Q := t_in (b := false) (by rfl) (by decide) (Nat.le_of_ble_eq_true rfl) k
-- ReelOfBoxes$Writer.stszSize(I)I
theorem t_164 {d mc ms : Nat} {Q : aj_Q} {Z : aj_Z} {I : aj_I} {G : aj_G} {x0 : Int32} (k : ∀ J : aj_J, aj_Cl 10 c_164 (some .int) false mc ms none (aj_T d) Q J → J 0 [some (.int x0)] [] Z I G (0, 0)) : aj_T (d + 1) mc ms 164 [.int x0] Z I G Q := t_in (b := false) (by rfl) (by decide) (Nat.le_of_ble_eq_true rfl) k
-- ReelOfBoxes$Writer.stblSize(LReelOfBoxes$Track;)I
theorem t_165 {d mc ms : Nat} {Q : aj_Q} {Z : aj_Z} {I : aj_I} {G : aj_G} {o0 : Nat} {o1 : Nat} (k : ∀ J : aj_J, aj_Cl 10 c_165 (some .int) false mc ms none (aj_T d) Q J → J 0 [some (.ref o0), some (.ref o1)] [] Z I G (0, 0)) : aj_T (d + 1) mc ms 165 [.ref o0, .ref o1] Z I G Q := t_in (b := false) (by rfl) (by decide) (Nat.le_of_ble_eq_true rfl) k
-- ReelOfBoxes$Writer.moovSize()I
theorem t_166 {d mc ms : Nat} {Q : aj_Q} {Z : aj_Z} {I : aj_I} {G : aj_G} {o0 : Nat} (k : ∀ J : aj_J, aj_Cl 10 c_166 (some .int) false mc ms none (aj_T d) Q J → J 0 [some (.ref o0), none, none, none] [] Z I G (0, 0)) : aj_T (d + 1) mc ms 166 [.ref o0] Z I G Q := t_in (b := false) (by rfl) (by decide) (Nat.le_of_ble_eq_true rfl) k
-- ReelOfBoxes$Writer.layChunks(I)I
theorem t_167 {d mc ms : Nat} {Q : aj_Q} {Z : aj_Z} {I : aj_I} {G : aj_G} {o0 : Nat} {x1 : Int32} (k : ∀ J : aj_J, aj_Cl 10 c_167 (some .int) false mc ms none (aj_T d) Q J → J 0 [some (.ref o0), some (.int x1), none, none, none, none] [] Z I G (0, 0)) : aj_T (d + 1) mc ms 167 [.ref o0, .int x1] Z I G Q := t_in (b := false) (by rfl) (by decide) (Nat.le_of_ble_eq_true rfl) k
-- ReelOfBoxes$Writer.chunkBytes(LReelOfBoxes$Track;I)I
theorem t_168 {d mc ms : Nat} {Q : aj_Q} {Z : aj_Z} {I : aj_I} {G : aj_G} {o0 : Nat} {o1 : Nat} {x2 : Int32} (k : ∀ J : aj_J, aj_Cl 10 c_168 (some .int) false mc ms none (aj_T d) Q J → J 0 [some (.ref o0), some (.ref o1), some (.int x2), none, none, none] [] Z I G (0, 0)) : aj_T (d + 1) mc ms 168 [.ref o0, .ref o1, .int x2] Z I G Q := t_in (b := false) (by rfl) (by decide) (Nat.le_of_ble_eq_true rfl) k
-- ReelOfBoxes$Writer.put(J)V
theorem t_169 {d mc ms : Nat} {Q : aj_Q} {Z : aj_Z} {I : aj_I} {G : aj_G} {o0 : Nat} {x1 : Int64} (k : ∀ J : aj_J, aj_Cl 10 c_169 (none) false mc ms none (aj_T d) Q J → J 0 [some (.ref o0), some (.long x1), none] [] Z I G (0, 0)) : aj_T (d + 1) mc ms 169 [.ref o0, .long x1] Z I G Q := t_in (b := false) (by rfl) (by decide) (Nat.le_of_ble_eq_true rfl) k
-- ReelOfBoxes$Writer.putHead(II)V
theorem t_170 {d mc ms : Nat} {Q : aj_Q} {Z : aj_Z} {I : aj_I} {G : aj_G} {o0 : Nat} {x1 : Int32} {x2 : Int32} (k : ∀ J : aj_J, aj_Cl 10 c_170 (none) false mc ms none (aj_T d) Q J → J 0 [some (.ref o0), some (.int x1), some (.int x2)] [] Z I G (0, 0)) : aj_T (d + 1) mc ms 170 [.ref o0, .int x1, .int x2] Z I G Q := t_in (b := false) (by rfl) (by decide) (Nat.le_of_ble_eq_true rfl) k
-- ReelOfBoxes$Writer.putTableHead(III)V
theorem t_171 {d mc ms : Nat} {Q : aj_Q} {Z : aj_Z} {I : aj_I} {G : aj_G} {o0 : Nat} {x1 : Int32} {x2 : Int32} {x3 : Int32} (k : ∀ J : aj_J, aj_Cl 10 c_171 (none) false mc ms none (aj_T d) Q J → J 0 [some (.ref o0), some (.int x1), some (.int x2), some (.int x3)] [] Z I G (0, 0)) : aj_T (d + 1) mc ms 171 [.ref o0, .int x1, .int x2, .int x3] Z I G Q := t_in (b := false) (by rfl) (by decide) (Nat.le_of_ble_eq_true rfl) k
-- ReelOfBoxes$Writer.writeMoov(I)V
theorem t_172 {d mc ms : Nat} {Q : aj_Q} {Z : aj_Z} {I : aj_I} {G : aj_G} {o0 : Nat} {x1 : Int32} (k : ∀ J : aj_J, aj_Cl 10 c_172 (none) false mc ms none (aj_T d) Q J → J 0 [some (.ref o0), some (.int x1), none, none] [] Z I G (0, 0)) : aj_T (d + 1) mc ms 172 [.ref o0, .int x1] Z I G Q := t_in (b := false) (by rfl) (by decide) (Nat.le_of_ble_eq_true rfl) k
-- ReelOfBoxes$Writer.writeStts(LReelOfBoxes$Track;)V
theorem t_173 {d mc ms : Nat} {Q : aj_Q} {Z : aj_Z} {I : aj_I} {G : aj_G} {o0 : Nat} {o1 : Nat} (k : ∀ J : aj_J, aj_Cl 10 c_173 (none) false mc ms none (aj_T d) Q J → J 0 [some (.ref o0), some (.ref o1), none, none] [] Z I G (0, 0)) : aj_T (d + 1) mc ms 173 [.ref o0, .ref o1] Z I G Q := t_in (b := false) (by rfl) (by decide) (Nat.le_of_ble_eq_true rfl) k
-- ReelOfBoxes$Writer.writeStsc(LReelOfBoxes$Track;)V
theorem t_174 {d mc ms : Nat} {Q : aj_Q} {Z : aj_Z} {I : aj_I} {G : aj_G} {o0 : Nat} {o1 : Nat} (k : ∀ J : aj_J, aj_Cl 10 c_174 (none) false mc ms none (aj_T d) Q J → J 0 [some (.ref o0), some (.ref o1), none] [] Z I G (0, 0)) : aj_T (d + 1) mc ms 174 [.ref o0, .ref o1] Z I G Q := t_in (b := false) (by rfl) (by decide) (Nat.le_of_ble_eq_true rfl) k
-- ReelOfBoxes$Writer.putStscEntry(LReelOfBoxes$Track;I)V
theorem t_175 {d mc ms : Nat} {Q : aj_Q} {Z : aj_Z} {I : aj_I} {G : aj_G} {o0 : Nat} {o1 : Nat} {x2 : Int32} (k : ∀ J : aj_J, aj_Cl 10 c_175 (none) false mc ms none (aj_T d) Q J → J 0 [some (.ref o0), some (.ref o1), some (.int x2)] [] Z I G (0, 0)) : aj_T (d + 1) mc ms 175 [.ref o0, .ref o1, .int x2] Z I G Q := t_in (b := false) (by rfl) (by decide) (Nat.le_of_ble_eq_true rfl) k
-- ReelOfBoxes$Writer.writeStsz(LReelOfBoxes$Track;)V
theorem t_176 {d mc ms : Nat} {Q : aj_Q} {Z : aj_Z} {I : aj_I} {G : aj_G} {o0 : Nat} {o1 : Nat} (k : ∀ J : aj_J, aj_Cl 10 c_176 (none) false mc ms none (aj_T d) Q J → J 0 [some (.ref o0), some (.ref o1), none, none] [] Z I G (0, 0)) : aj_T (d + 1) mc ms 176 [.ref o0, .ref o1] Z I G Q := t_in (b := false) (by rfl) (by decide) (Nat.le_of_ble_eq_true rfl) k
-- ReelOfBoxes$Writer.writePlaces(LReelOfBoxes$Track;I)V
theorem t_177 {d mc ms : Nat} {Q : aj_Q} {Z : aj_Z} {I : aj_I} {G : aj_G} {o0 : Nat} {o1 : Nat} {x2 : Int32} (k : ∀ J : aj_J, aj_Cl 10 c_177 (none) false mc ms none (aj_T d) Q J → J 0 [some (.ref o0), some (.ref o1), some (.int x2), none, none] [] Z I G (0, 0)) : aj_T (d + 1) mc ms 177 [.ref o0, .ref o1, .int x2] Z I G Q := t_in (b := false) (by rfl) (by decide) (Nat.le_of_ble_eq_true rfl) k
-- ReelOfBoxes$Writer.writeMdat(I)V
theorem t_178 {d mc ms : Nat} {Q : aj_Q} {Z : aj_Z} {I : aj_I} {G : aj_G} {o0 : Nat} {x1 : Int32} (k : ∀ J : aj_J, aj_Cl 10 c_178 (none) false mc ms none (aj_T d) Q J → J 0 [some (.ref o0), some (.int x1), none, none, none] [] Z I G (0, 0)) : aj_T (d + 1) mc ms 178 [.ref o0, .int x1] Z I G Q := t_in (b := false) (by rfl) (by decide) (Nat.le_of_ble_eq_true rfl) k
-- ReelOfBoxes$Writer.writeChunk(LReelOfBoxes$Track;I)V
theorem t_179 {d mc ms : Nat} {Q : aj_Q} {Z : aj_Z} {I : aj_I} {G : aj_G} {o0 : Nat} {o1 : Nat} {x2 : Int32} (k : ∀ J : aj_J, aj_Cl 10 c_179 (none) false mc ms none (aj_T d) Q J → J 0 [some (.ref o0), some (.ref o1), some (.int x2), none, none, none, none] [] Z I G (0, 0)) : aj_T (d + 1) mc ms 179 [.ref o0, .ref o1, .int x2] Z I G Q := t_in (b := false) (by rfl) (by decide) (Nat.le_of_ble_eq_true rfl) k
