/-! the constructors run: states, events -/
def aj_G0 : aj_G := fun _ _ => 0
theorem aj_nG0 (Z : aj_Z) : aj_nG Z aj_G0 = aj_G0 := by funext o k; unfold aj_nG aj_G0 va_up; split <;> rfl
def zs_0 : aj_Z := (0, fun _ => none, fun _ _ => .null)
def is_0 : aj_I := fun _ _ => 0
theorem pa_0 : (ArrayType.int, 0) ∈ aj_pas := List.mem_of_getElem? (i := 0) rfl
theorem pa_1 : (ArrayType.long, 1) ∈ aj_pas := List.mem_of_getElem? (i := 1) rfl
theorem pa_2 : (ArrayType.byte, 2) ∈ aj_pas := List.mem_of_getElem? (i := 2) rfl
theorem pa_3 : (ArrayType.boolean, 3) ∈ aj_pas := List.mem_of_getElem? (i := 3) rfl
def zs_1 : aj_Z := aj_nZ zs_0 (.inl 0)
def is_1 : aj_I := aj_nI zs_0 is_0
theorem en_1 {J : aj_J} {pc : Nat} {L : aj_L} {st : List Value} {C : Nat × Nat} (h : J pc L (.ref 2 :: st) zs_1 is_1 aj_G0 C) : J pc L (.ref (zs_0.1 + 2) :: st) (aj_nZ zs_0 (.inl 0)) (aj_nI zs_0 is_0) (aj_nG zs_0 aj_G0) C := by
  rw [aj_nG0, show zs_0.1 + 2 = 2 from rfl]
  exact h
def zs_2 : aj_Z := aj_nZ zs_1 (.inl 6)
def is_2 : aj_I := aj_nI zs_1 is_1
theorem en_2 {J : aj_J} {pc : Nat} {L : aj_L} {st : List Value} {C : Nat × Nat} (h : J pc L (.ref 3 :: st) zs_2 is_2 aj_G0 C) : J pc L (.ref (zs_1.1 + 2) :: st) (aj_nZ zs_1 (.inl 6)) (aj_nI zs_1 is_1) (aj_nG zs_1 aj_G0) C := by
  rw [aj_nG0, show zs_1.1 + 2 = 3 from rfl]
  exact h
def zs_3 : aj_Z := aj_nZ zs_2 (.inr (5, 3))
def is_3 : aj_I := aj_nI zs_2 is_2
theorem en_3 {J : aj_J} {pc : Nat} {L : aj_L} {st : List Value} {C : Nat × Nat} (h : J pc L (.ref 4 :: st) zs_3 is_3 aj_G0 C) : J pc L (.ref (zs_2.1 + 2) :: st) (aj_nZ zs_2 (.inr (5, 3))) (aj_nI zs_2 is_2) (aj_nG zs_2 aj_G0) C := by
  rw [aj_nG0, show zs_2.1 + 2 = 4 from rfl]
  exact h
def zs_4 : aj_Z := (zs_3.1, zs_3.2.1, aj_u2 zs_3.2.2 3 0 (.ref 4))
theorem en_4 {J : aj_J} {pc : Nat} {L : aj_L} {st : List Value} {C : Nat × Nat} {I : aj_I} {G : aj_G} (h : J pc L st zs_4 I G C) : J pc L st (zs_3.1, zs_3.2.1, aj_u2 zs_3.2.2 3 0 (.ref 4)) I G C := h
def is_4 : aj_I := aj_u2 is_3 3 1 0
theorem ei_4 {J : aj_J} {pc : Nat} {L : aj_L} {st : List Value} {C : Nat × Nat} {Z : aj_Z} {G : aj_G} (h : J pc L st Z is_4 G C) : J pc L st Z (aj_u2 is_3 3 1 0) G C := h
def zs_5 : aj_Z := aj_nZ zs_4 (.inl 8)
def is_5 : aj_I := aj_nI zs_4 is_4
theorem en_5 {J : aj_J} {pc : Nat} {L : aj_L} {st : List Value} {C : Nat × Nat} (h : J pc L (.ref 5 :: st) zs_5 is_5 aj_G0 C) : J pc L (.ref (zs_4.1 + 2) :: st) (aj_nZ zs_4 (.inl 8)) (aj_nI zs_4 is_4) (aj_nG zs_4 aj_G0) C := by
  rw [aj_nG0, show zs_4.1 + 2 = 5 from rfl]
  exact h
def zs_6 : aj_Z := aj_nZ zs_5 (.inr (0, 16))
def is_6 : aj_I := aj_nI zs_5 is_5
theorem en_6 {J : aj_J} {pc : Nat} {L : aj_L} {st : List Value} {C : Nat × Nat} (h : J pc L (.ref 6 :: st) zs_6 is_6 aj_G0 C) : J pc L (.ref (zs_5.1 + 2) :: st) (aj_nZ zs_5 (.inr (0, 16))) (aj_nI zs_5 is_5) (aj_nG zs_5 aj_G0) C := by
  rw [aj_nG0, show zs_5.1 + 2 = 6 from rfl]
  exact h
def zs_7 : aj_Z := (zs_6.1, zs_6.2.1, aj_u2 zs_6.2.2 5 0 (.ref 6))
theorem en_7 {J : aj_J} {pc : Nat} {L : aj_L} {st : List Value} {C : Nat × Nat} {I : aj_I} {G : aj_G} (h : J pc L st zs_7 I G C) : J pc L st (zs_6.1, zs_6.2.1, aj_u2 zs_6.2.2 5 0 (.ref 6)) I G C := h
def zs_8 : aj_Z := aj_nZ zs_7 (.inr (0, 16))
def is_7 : aj_I := aj_nI zs_7 is_6
theorem en_8 {J : aj_J} {pc : Nat} {L : aj_L} {st : List Value} {C : Nat × Nat} (h : J pc L (.ref 7 :: st) zs_8 is_7 aj_G0 C) : J pc L (.ref (zs_7.1 + 2) :: st) (aj_nZ zs_7 (.inr (0, 16))) (aj_nI zs_7 is_6) (aj_nG zs_7 aj_G0) C := by
  rw [aj_nG0, show zs_7.1 + 2 = 7 from rfl]
  exact h
def zs_9 : aj_Z := (zs_8.1, zs_8.2.1, aj_u2 zs_8.2.2 5 1 (.ref 7))
theorem en_9 {J : aj_J} {pc : Nat} {L : aj_L} {st : List Value} {C : Nat × Nat} {I : aj_I} {G : aj_G} (h : J pc L st zs_9 I G C) : J pc L st (zs_8.1, zs_8.2.1, aj_u2 zs_8.2.2 5 1 (.ref 7)) I G C := h
def zs_10 : aj_Z := aj_nZ zs_9 (.inr (1, 16))
def is_8 : aj_I := aj_nI zs_9 is_7
theorem en_10 {J : aj_J} {pc : Nat} {L : aj_L} {st : List Value} {C : Nat × Nat} (h : J pc L (.ref 8 :: st) zs_10 is_8 aj_G0 C) : J pc L (.ref (zs_9.1 + 2) :: st) (aj_nZ zs_9 (.inr (1, 16))) (aj_nI zs_9 is_7) (aj_nG zs_9 aj_G0) C := by
  rw [aj_nG0, show zs_9.1 + 2 = 8 from rfl]
  exact h
def zs_11 : aj_Z := (zs_10.1, zs_10.2.1, aj_u2 zs_10.2.2 5 2 (.ref 8))
theorem en_11 {J : aj_J} {pc : Nat} {L : aj_L} {st : List Value} {C : Nat × Nat} {I : aj_I} {G : aj_G} (h : J pc L st zs_11 I G C) : J pc L st (zs_10.1, zs_10.2.1, aj_u2 zs_10.2.2 5 2 (.ref 8)) I G C := h
def is_9 : aj_I := aj_u2 is_8 5 3 0
theorem ei_9 {J : aj_J} {pc : Nat} {L : aj_L} {st : List Value} {C : Nat × Nat} {Z : aj_Z} {G : aj_G} (h : J pc L st Z is_9 G C) : J pc L st Z (aj_u2 is_8 5 3 0) G C := h
def zs_12 : aj_Z := (zs_11.1, zs_11.2.1, aj_u2 zs_11.2.2 4 0 (.ref 5))
theorem en_12 {J : aj_J} {pc : Nat} {L : aj_L} {st : List Value} {C : Nat × Nat} {I : aj_I} {G : aj_G} (h : J pc L st zs_12 I G C) : J pc L st (zs_11.1, zs_11.2.1, aj_u2 zs_11.2.2 4 0 (.ref 5)) I G C := h
def zs_13 : aj_Z := aj_nZ zs_12 (.inl 8)
def is_10 : aj_I := aj_nI zs_12 is_9
theorem en_13 {J : aj_J} {pc : Nat} {L : aj_L} {st : List Value} {C : Nat × Nat} (h : J pc L (.ref 9 :: st) zs_13 is_10 aj_G0 C) : J pc L (.ref (zs_12.1 + 2) :: st) (aj_nZ zs_12 (.inl 8)) (aj_nI zs_12 is_9) (aj_nG zs_12 aj_G0) C := by
  rw [aj_nG0, show zs_12.1 + 2 = 9 from rfl]
  exact h
def zs_14 : aj_Z := aj_nZ zs_13 (.inr (0, 16))
def is_11 : aj_I := aj_nI zs_13 is_10
theorem en_14 {J : aj_J} {pc : Nat} {L : aj_L} {st : List Value} {C : Nat × Nat} (h : J pc L (.ref 10 :: st) zs_14 is_11 aj_G0 C) : J pc L (.ref (zs_13.1 + 2) :: st) (aj_nZ zs_13 (.inr (0, 16))) (aj_nI zs_13 is_10) (aj_nG zs_13 aj_G0) C := by
  rw [aj_nG0, show zs_13.1 + 2 = 10 from rfl]
  exact h
def zs_15 : aj_Z := (zs_14.1, zs_14.2.1, aj_u2 zs_14.2.2 9 0 (.ref 10))
theorem en_15 {J : aj_J} {pc : Nat} {L : aj_L} {st : List Value} {C : Nat × Nat} {I : aj_I} {G : aj_G} (h : J pc L st zs_15 I G C) : J pc L st (zs_14.1, zs_14.2.1, aj_u2 zs_14.2.2 9 0 (.ref 10)) I G C := h
def zs_16 : aj_Z := aj_nZ zs_15 (.inr (0, 16))
def is_12 : aj_I := aj_nI zs_15 is_11
theorem en_16 {J : aj_J} {pc : Nat} {L : aj_L} {st : List Value} {C : Nat × Nat} (h : J pc L (.ref 11 :: st) zs_16 is_12 aj_G0 C) : J pc L (.ref (zs_15.1 + 2) :: st) (aj_nZ zs_15 (.inr (0, 16))) (aj_nI zs_15 is_11) (aj_nG zs_15 aj_G0) C := by
  rw [aj_nG0, show zs_15.1 + 2 = 11 from rfl]
  exact h
def zs_17 : aj_Z := (zs_16.1, zs_16.2.1, aj_u2 zs_16.2.2 9 1 (.ref 11))
theorem en_17 {J : aj_J} {pc : Nat} {L : aj_L} {st : List Value} {C : Nat × Nat} {I : aj_I} {G : aj_G} (h : J pc L st zs_17 I G C) : J pc L st (zs_16.1, zs_16.2.1, aj_u2 zs_16.2.2 9 1 (.ref 11)) I G C := h
def zs_18 : aj_Z := aj_nZ zs_17 (.inr (1, 16))
def is_13 : aj_I := aj_nI zs_17 is_12
theorem en_18 {J : aj_J} {pc : Nat} {L : aj_L} {st : List Value} {C : Nat × Nat} (h : J pc L (.ref 12 :: st) zs_18 is_13 aj_G0 C) : J pc L (.ref (zs_17.1 + 2) :: st) (aj_nZ zs_17 (.inr (1, 16))) (aj_nI zs_17 is_12) (aj_nG zs_17 aj_G0) C := by
  rw [aj_nG0, show zs_17.1 + 2 = 12 from rfl]
  exact h
def zs_19 : aj_Z := (zs_18.1, zs_18.2.1, aj_u2 zs_18.2.2 9 2 (.ref 12))
theorem en_19 {J : aj_J} {pc : Nat} {L : aj_L} {st : List Value} {C : Nat × Nat} {I : aj_I} {G : aj_G} (h : J pc L st zs_19 I G C) : J pc L st (zs_18.1, zs_18.2.1, aj_u2 zs_18.2.2 9 2 (.ref 12)) I G C := h
def is_14 : aj_I := aj_u2 is_13 9 3 0
theorem ei_14 {J : aj_J} {pc : Nat} {L : aj_L} {st : List Value} {C : Nat × Nat} {Z : aj_Z} {G : aj_G} (h : J pc L st Z is_14 G C) : J pc L st Z (aj_u2 is_13 9 3 0) G C := h
def zs_20 : aj_Z := (zs_19.1, zs_19.2.1, aj_u2 zs_19.2.2 4 1 (.ref 9))
theorem en_20 {J : aj_J} {pc : Nat} {L : aj_L} {st : List Value} {C : Nat × Nat} {I : aj_I} {G : aj_G} (h : J pc L st zs_20 I G C) : J pc L st (zs_19.1, zs_19.2.1, aj_u2 zs_19.2.2 4 1 (.ref 9)) I G C := h
def zs_21 : aj_Z := aj_nZ zs_20 (.inl 8)
def is_15 : aj_I := aj_nI zs_20 is_14
theorem en_21 {J : aj_J} {pc : Nat} {L : aj_L} {st : List Value} {C : Nat × Nat} (h : J pc L (.ref 13 :: st) zs_21 is_15 aj_G0 C) : J pc L (.ref (zs_20.1 + 2) :: st) (aj_nZ zs_20 (.inl 8)) (aj_nI zs_20 is_14) (aj_nG zs_20 aj_G0) C := by
  rw [aj_nG0, show zs_20.1 + 2 = 13 from rfl]
  exact h
def zs_22 : aj_Z := aj_nZ zs_21 (.inr (0, 16))
def is_16 : aj_I := aj_nI zs_21 is_15
theorem en_22 {J : aj_J} {pc : Nat} {L : aj_L} {st : List Value} {C : Nat × Nat} (h : J pc L (.ref 14 :: st) zs_22 is_16 aj_G0 C) : J pc L (.ref (zs_21.1 + 2) :: st) (aj_nZ zs_21 (.inr (0, 16))) (aj_nI zs_21 is_15) (aj_nG zs_21 aj_G0) C := by
  rw [aj_nG0, show zs_21.1 + 2 = 14 from rfl]
  exact h
def zs_23 : aj_Z := (zs_22.1, zs_22.2.1, aj_u2 zs_22.2.2 13 0 (.ref 14))
theorem en_23 {J : aj_J} {pc : Nat} {L : aj_L} {st : List Value} {C : Nat × Nat} {I : aj_I} {G : aj_G} (h : J pc L st zs_23 I G C) : J pc L st (zs_22.1, zs_22.2.1, aj_u2 zs_22.2.2 13 0 (.ref 14)) I G C := h
def zs_24 : aj_Z := aj_nZ zs_23 (.inr (0, 16))
def is_17 : aj_I := aj_nI zs_23 is_16
theorem en_24 {J : aj_J} {pc : Nat} {L : aj_L} {st : List Value} {C : Nat × Nat} (h : J pc L (.ref 15 :: st) zs_24 is_17 aj_G0 C) : J pc L (.ref (zs_23.1 + 2) :: st) (aj_nZ zs_23 (.inr (0, 16))) (aj_nI zs_23 is_16) (aj_nG zs_23 aj_G0) C := by
  rw [aj_nG0, show zs_23.1 + 2 = 15 from rfl]
  exact h
def zs_25 : aj_Z := (zs_24.1, zs_24.2.1, aj_u2 zs_24.2.2 13 1 (.ref 15))
theorem en_25 {J : aj_J} {pc : Nat} {L : aj_L} {st : List Value} {C : Nat × Nat} {I : aj_I} {G : aj_G} (h : J pc L st zs_25 I G C) : J pc L st (zs_24.1, zs_24.2.1, aj_u2 zs_24.2.2 13 1 (.ref 15)) I G C := h
def zs_26 : aj_Z := aj_nZ zs_25 (.inr (1, 16))
def is_18 : aj_I := aj_nI zs_25 is_17
theorem en_26 {J : aj_J} {pc : Nat} {L : aj_L} {st : List Value} {C : Nat × Nat} (h : J pc L (.ref 16 :: st) zs_26 is_18 aj_G0 C) : J pc L (.ref (zs_25.1 + 2) :: st) (aj_nZ zs_25 (.inr (1, 16))) (aj_nI zs_25 is_17) (aj_nG zs_25 aj_G0) C := by
  rw [aj_nG0, show zs_25.1 + 2 = 16 from rfl]
  exact h
def zs_27 : aj_Z := (zs_26.1, zs_26.2.1, aj_u2 zs_26.2.2 13 2 (.ref 16))
theorem en_27 {J : aj_J} {pc : Nat} {L : aj_L} {st : List Value} {C : Nat × Nat} {I : aj_I} {G : aj_G} (h : J pc L st zs_27 I G C) : J pc L st (zs_26.1, zs_26.2.1, aj_u2 zs_26.2.2 13 2 (.ref 16)) I G C := h
def is_19 : aj_I := aj_u2 is_18 13 3 0
theorem ei_19 {J : aj_J} {pc : Nat} {L : aj_L} {st : List Value} {C : Nat × Nat} {Z : aj_Z} {G : aj_G} (h : J pc L st Z is_19 G C) : J pc L st Z (aj_u2 is_18 13 3 0) G C := h
def zs_28 : aj_Z := (zs_27.1, zs_27.2.1, aj_u2 zs_27.2.2 4 2 (.ref 13))
theorem en_28 {J : aj_J} {pc : Nat} {L : aj_L} {st : List Value} {C : Nat × Nat} {I : aj_I} {G : aj_G} (h : J pc L st zs_28 I G C) : J pc L st (zs_27.1, zs_27.2.1, aj_u2 zs_27.2.2 4 2 (.ref 13)) I G C := h
def zs_29 : aj_Z := (zs_28.1, zs_28.2.1, aj_u2 zs_28.2.2 2 0 (.ref 3))
theorem en_29 {J : aj_J} {pc : Nat} {L : aj_L} {st : List Value} {C : Nat × Nat} {I : aj_I} {G : aj_G} (h : J pc L st zs_29 I G C) : J pc L st (zs_28.1, zs_28.2.1, aj_u2 zs_28.2.2 2 0 (.ref 3)) I G C := h
def zs_30 : aj_Z := aj_nZ zs_29 (.inl 2)
def is_20 : aj_I := aj_nI zs_29 is_19
theorem en_30 {J : aj_J} {pc : Nat} {L : aj_L} {st : List Value} {C : Nat × Nat} (h : J pc L (.ref 17 :: st) zs_30 is_20 aj_G0 C) : J pc L (.ref (zs_29.1 + 2) :: st) (aj_nZ zs_29 (.inl 2)) (aj_nI zs_29 is_19) (aj_nG zs_29 aj_G0) C := by
  rw [aj_nG0, show zs_29.1 + 2 = 17 from rfl]
  exact h
def zs_31 : aj_Z := aj_nZ zs_30 (.inr (2, 1200))
def is_21 : aj_I := aj_nI zs_30 is_20
theorem en_31 {J : aj_J} {pc : Nat} {L : aj_L} {st : List Value} {C : Nat × Nat} (h : J pc L (.ref 18 :: st) zs_31 is_21 aj_G0 C) : J pc L (.ref (zs_30.1 + 2) :: st) (aj_nZ zs_30 (.inr (2, 1200))) (aj_nI zs_30 is_20) (aj_nG zs_30 aj_G0) C := by
  rw [aj_nG0, show zs_30.1 + 2 = 18 from rfl]
  exact h
def zs_32 : aj_Z := (zs_31.1, zs_31.2.1, aj_u2 zs_31.2.2 17 0 (.ref 18))
theorem en_32 {J : aj_J} {pc : Nat} {L : aj_L} {st : List Value} {C : Nat × Nat} {I : aj_I} {G : aj_G} (h : J pc L st zs_32 I G C) : J pc L st (zs_31.1, zs_31.2.1, aj_u2 zs_31.2.2 17 0 (.ref 18)) I G C := h
def is_22 : aj_I := aj_u2 is_21 17 1 0
theorem ei_22 {J : aj_J} {pc : Nat} {L : aj_L} {st : List Value} {C : Nat × Nat} {Z : aj_Z} {G : aj_G} (h : J pc L st Z is_22 G C) : J pc L st Z (aj_u2 is_21 17 1 0) G C := h
def zs_33 : aj_Z := (zs_32.1, zs_32.2.1, aj_u2 zs_32.2.2 2 1 (.ref 17))
theorem en_33 {J : aj_J} {pc : Nat} {L : aj_L} {st : List Value} {C : Nat × Nat} {I : aj_I} {G : aj_G} (h : J pc L st zs_33 I G C) : J pc L st (zs_32.1, zs_32.2.1, aj_u2 zs_32.2.2 2 1 (.ref 17)) I G C := h
def zs_34 : aj_Z := aj_nZ zs_33 (.inl 5)
def is_23 : aj_I := aj_nI zs_33 is_22
theorem en_34 {J : aj_J} {pc : Nat} {L : aj_L} {st : List Value} {C : Nat × Nat} (h : J pc L (.ref 19 :: st) zs_34 is_23 aj_G0 C) : J pc L (.ref (zs_33.1 + 2) :: st) (aj_nZ zs_33 (.inl 5)) (aj_nI zs_33 is_22) (aj_nG zs_33 aj_G0) C := by
  rw [aj_nG0, show zs_33.1 + 2 = 19 from rfl]
  exact h
def zs_35 : aj_Z := (zs_34.1, zs_34.2.1, aj_u2 zs_34.2.2 19 0 (.ref 17))
theorem en_35 {J : aj_J} {pc : Nat} {L : aj_L} {st : List Value} {C : Nat × Nat} {I : aj_I} {G : aj_G} (h : J pc L st zs_35 I G C) : J pc L st (zs_34.1, zs_34.2.1, aj_u2 zs_34.2.2 19 0 (.ref 17)) I G C := h
def zs_36 : aj_Z := aj_nZ zs_35 (.inl 3)
def is_24 : aj_I := aj_nI zs_35 is_23
theorem en_36 {J : aj_J} {pc : Nat} {L : aj_L} {st : List Value} {C : Nat × Nat} (h : J pc L (.ref 20 :: st) zs_36 is_24 aj_G0 C) : J pc L (.ref (zs_35.1 + 2) :: st) (aj_nZ zs_35 (.inl 3)) (aj_nI zs_35 is_23) (aj_nG zs_35 aj_G0) C := by
  rw [aj_nG0, show zs_35.1 + 2 = 20 from rfl]
  exact h
def is_25 : aj_I := aj_u2 is_24 20 0 0
theorem ei_25 {J : aj_J} {pc : Nat} {L : aj_L} {st : List Value} {C : Nat × Nat} {Z : aj_Z} {G : aj_G} (h : J pc L st Z is_25 G C) : J pc L st Z (aj_u2 is_24 20 0 0) G C := h
def is_26 : aj_I := aj_u2 is_25 20 1 (-1)
theorem ei_26 {J : aj_J} {pc : Nat} {L : aj_L} {st : List Value} {C : Nat × Nat} {Z : aj_Z} {G : aj_G} (h : J pc L st Z is_26 G C) : J pc L st Z (aj_u2 is_25 20 1 (-1)) G C := h
def zs_37 : aj_Z := (zs_36.1, zs_36.2.1, aj_u2 zs_36.2.2 19 1 (.ref 20))
theorem en_37 {J : aj_J} {pc : Nat} {L : aj_L} {st : List Value} {C : Nat × Nat} {I : aj_I} {G : aj_G} (h : J pc L st zs_37 I G C) : J pc L st (zs_36.1, zs_36.2.1, aj_u2 zs_36.2.2 19 1 (.ref 20)) I G C := h
def zs_38 : aj_Z := aj_nZ zs_37 (.inl 4)
def is_27 : aj_I := aj_nI zs_37 is_26
theorem en_38 {J : aj_J} {pc : Nat} {L : aj_L} {st : List Value} {C : Nat × Nat} (h : J pc L (.ref 21 :: st) zs_38 is_27 aj_G0 C) : J pc L (.ref (zs_37.1 + 2) :: st) (aj_nZ zs_37 (.inl 4)) (aj_nI zs_37 is_26) (aj_nG zs_37 aj_G0) C := by
  rw [aj_nG0, show zs_37.1 + 2 = 21 from rfl]
  exact h
def zs_39 : aj_Z := aj_nZ zs_38 (.inr (4, 3))
def is_28 : aj_I := aj_nI zs_38 is_27
theorem en_39 {J : aj_J} {pc : Nat} {L : aj_L} {st : List Value} {C : Nat × Nat} (h : J pc L (.ref 22 :: st) zs_39 is_28 aj_G0 C) : J pc L (.ref (zs_38.1 + 2) :: st) (aj_nZ zs_38 (.inr (4, 3))) (aj_nI zs_38 is_27) (aj_nG zs_38 aj_G0) C := by
  rw [aj_nG0, show zs_38.1 + 2 = 22 from rfl]
  exact h
def zs_40 : aj_Z := (zs_39.1, zs_39.2.1, aj_u2 zs_39.2.2 21 2 (.ref 22))
theorem en_40 {J : aj_J} {pc : Nat} {L : aj_L} {st : List Value} {C : Nat × Nat} {I : aj_I} {G : aj_G} (h : J pc L st zs_40 I G C) : J pc L st (zs_39.1, zs_39.2.1, aj_u2 zs_39.2.2 21 2 (.ref 22)) I G C := h
def zs_41 : aj_Z := aj_nZ zs_40 (.inr (0, 4))
def is_29 : aj_I := aj_nI zs_40 is_28
theorem en_41 {J : aj_J} {pc : Nat} {L : aj_L} {st : List Value} {C : Nat × Nat} (h : J pc L (.ref 23 :: st) zs_41 is_29 aj_G0 C) : J pc L (.ref (zs_40.1 + 2) :: st) (aj_nZ zs_40 (.inr (0, 4))) (aj_nI zs_40 is_28) (aj_nG zs_40 aj_G0) C := by
  rw [aj_nG0, show zs_40.1 + 2 = 23 from rfl]
  exact h
def zs_42 : aj_Z := (zs_41.1, zs_41.2.1, aj_u2 zs_41.2.2 21 3 (.ref 23))
theorem en_42 {J : aj_J} {pc : Nat} {L : aj_L} {st : List Value} {C : Nat × Nat} {I : aj_I} {G : aj_G} (h : J pc L st zs_42 I G C) : J pc L st (zs_41.1, zs_41.2.1, aj_u2 zs_41.2.2 21 3 (.ref 23)) I G C := h
def zs_43 : aj_Z := aj_nZ zs_42 (.inr (0, 4))
def is_30 : aj_I := aj_nI zs_42 is_29
theorem en_43 {J : aj_J} {pc : Nat} {L : aj_L} {st : List Value} {C : Nat × Nat} (h : J pc L (.ref 24 :: st) zs_43 is_30 aj_G0 C) : J pc L (.ref (zs_42.1 + 2) :: st) (aj_nZ zs_42 (.inr (0, 4))) (aj_nI zs_42 is_29) (aj_nG zs_42 aj_G0) C := by
  rw [aj_nG0, show zs_42.1 + 2 = 24 from rfl]
  exact h
def zs_44 : aj_Z := (zs_43.1, zs_43.2.1, aj_u2 zs_43.2.2 21 4 (.ref 24))
theorem en_44 {J : aj_J} {pc : Nat} {L : aj_L} {st : List Value} {C : Nat × Nat} {I : aj_I} {G : aj_G} (h : J pc L st zs_44 I G C) : J pc L st (zs_43.1, zs_43.2.1, aj_u2 zs_43.2.2 21 4 (.ref 24)) I G C := h
def is_31 : aj_I := aj_u2 is_30 21 5 0
theorem ei_31 {J : aj_J} {pc : Nat} {L : aj_L} {st : List Value} {C : Nat × Nat} {Z : aj_Z} {G : aj_G} (h : J pc L st Z is_31 G C) : J pc L st Z (aj_u2 is_30 21 5 0) G C := h
def is_32 : aj_I := aj_u2 is_31 21 6 0
theorem ei_32 {J : aj_J} {pc : Nat} {L : aj_L} {st : List Value} {C : Nat × Nat} {Z : aj_Z} {G : aj_G} (h : J pc L st Z is_32 G C) : J pc L st Z (aj_u2 is_31 21 6 0) G C := h
def is_33 : aj_I := aj_u2 is_32 21 7 0
theorem ei_33 {J : aj_J} {pc : Nat} {L : aj_L} {st : List Value} {C : Nat × Nat} {Z : aj_Z} {G : aj_G} (h : J pc L st Z is_33 G C) : J pc L st Z (aj_u2 is_32 21 7 0) G C := h
def is_34 : aj_I := aj_u2 is_33 21 8 0
theorem ei_34 {J : aj_J} {pc : Nat} {L : aj_L} {st : List Value} {C : Nat × Nat} {Z : aj_Z} {G : aj_G} (h : J pc L st Z is_34 G C) : J pc L st Z (aj_u2 is_33 21 8 0) G C := h
def is_35 : aj_I := aj_u2 is_34 21 9 0
theorem ei_35 {J : aj_J} {pc : Nat} {L : aj_L} {st : List Value} {C : Nat × Nat} {Z : aj_Z} {G : aj_G} (h : J pc L st Z is_35 G C) : J pc L st Z (aj_u2 is_34 21 9 0) G C := h
def is_36 : aj_I := aj_u2 is_35 21 10 0
theorem ei_36 {J : aj_J} {pc : Nat} {L : aj_L} {st : List Value} {C : Nat × Nat} {Z : aj_Z} {G : aj_G} (h : J pc L st Z is_36 G C) : J pc L st Z (aj_u2 is_35 21 10 0) G C := h
def is_37 : aj_I := aj_u2 is_36 21 12 0
theorem ei_37 {J : aj_J} {pc : Nat} {L : aj_L} {st : List Value} {C : Nat × Nat} {Z : aj_Z} {G : aj_G} (h : J pc L st Z is_37 G C) : J pc L st Z (aj_u2 is_36 21 12 0) G C := h
def is_38 : aj_I := aj_u2 is_37 21 13 0
theorem ei_38 {J : aj_J} {pc : Nat} {L : aj_L} {st : List Value} {C : Nat × Nat} {Z : aj_Z} {G : aj_G} (h : J pc L st Z is_38 G C) : J pc L st Z (aj_u2 is_37 21 13 0) G C := h
def is_39 : aj_I := aj_u2 is_38 21 14 0
theorem ei_39 {J : aj_J} {pc : Nat} {L : aj_L} {st : List Value} {C : Nat × Nat} {Z : aj_Z} {G : aj_G} (h : J pc L st Z is_39 G C) : J pc L st Z (aj_u2 is_38 21 14 0) G C := h
def is_40 : aj_I := aj_u2 is_39 21 15 0
theorem ei_40 {J : aj_J} {pc : Nat} {L : aj_L} {st : List Value} {C : Nat × Nat} {Z : aj_Z} {G : aj_G} (h : J pc L st Z is_40 G C) : J pc L st Z (aj_u2 is_39 21 15 0) G C := h
def zs_45 : aj_Z := (zs_44.1, zs_44.2.1, aj_u2 zs_44.2.2 21 0 (.ref 17))
theorem en_45 {J : aj_J} {pc : Nat} {L : aj_L} {st : List Value} {C : Nat × Nat} {I : aj_I} {G : aj_G} (h : J pc L st zs_45 I G C) : J pc L st (zs_44.1, zs_44.2.1, aj_u2 zs_44.2.2 21 0 (.ref 17)) I G C := h
def zs_46 : aj_Z := (zs_45.1, zs_45.2.1, aj_u2 zs_45.2.2 21 1 (.ref 20))
theorem en_46 {J : aj_J} {pc : Nat} {L : aj_L} {st : List Value} {C : Nat × Nat} {I : aj_I} {G : aj_G} (h : J pc L st zs_46 I G C) : J pc L st (zs_45.1, zs_45.2.1, aj_u2 zs_45.2.2 21 1 (.ref 20)) I G C := h
def zs_47 : aj_Z := aj_nZ zs_46 (.inl 9)
def is_41 : aj_I := aj_nI zs_46 is_40
theorem en_47 {J : aj_J} {pc : Nat} {L : aj_L} {st : List Value} {C : Nat × Nat} (h : J pc L (.ref 25 :: st) zs_47 is_41 aj_G0 C) : J pc L (.ref (zs_46.1 + 2) :: st) (aj_nZ zs_46 (.inl 9)) (aj_nI zs_46 is_40) (aj_nG zs_46 aj_G0) C := by
  rw [aj_nG0, show zs_46.1 + 2 = 25 from rfl]
  exact h
def zs_48 : aj_Z := aj_nZ zs_47 (.inr (6, 4))
def is_42 : aj_I := aj_nI zs_47 is_41
theorem en_48 {J : aj_J} {pc : Nat} {L : aj_L} {st : List Value} {C : Nat × Nat} (h : J pc L (.ref 26 :: st) zs_48 is_42 aj_G0 C) : J pc L (.ref (zs_47.1 + 2) :: st) (aj_nZ zs_47 (.inr (6, 4))) (aj_nI zs_47 is_41) (aj_nG zs_47 aj_G0) C := by
  rw [aj_nG0, show zs_47.1 + 2 = 26 from rfl]
  exact h
def zs_49 : aj_Z := (zs_48.1, zs_48.2.1, aj_u2 zs_48.2.2 25 0 (.ref 26))
theorem en_49 {J : aj_J} {pc : Nat} {L : aj_L} {st : List Value} {C : Nat × Nat} {I : aj_I} {G : aj_G} (h : J pc L st zs_49 I G C) : J pc L st (zs_48.1, zs_48.2.1, aj_u2 zs_48.2.2 25 0 (.ref 26)) I G C := h
def zs_50 : aj_Z := aj_nZ zs_49 (.inr (0, 16))
def is_43 : aj_I := aj_nI zs_49 is_42
theorem en_50 {J : aj_J} {pc : Nat} {L : aj_L} {st : List Value} {C : Nat × Nat} (h : J pc L (.ref 27 :: st) zs_50 is_43 aj_G0 C) : J pc L (.ref (zs_49.1 + 2) :: st) (aj_nZ zs_49 (.inr (0, 16))) (aj_nI zs_49 is_42) (aj_nG zs_49 aj_G0) C := by
  rw [aj_nG0, show zs_49.1 + 2 = 27 from rfl]
  exact h
def zs_51 : aj_Z := (zs_50.1, zs_50.2.1, aj_u2 zs_50.2.2 25 1 (.ref 27))
theorem en_51 {J : aj_J} {pc : Nat} {L : aj_L} {st : List Value} {C : Nat × Nat} {I : aj_I} {G : aj_G} (h : J pc L st zs_51 I G C) : J pc L st (zs_50.1, zs_50.2.1, aj_u2 zs_50.2.2 25 1 (.ref 27)) I G C := h
def zs_52 : aj_Z := aj_nZ zs_51 (.inr (0, 16))
def is_44 : aj_I := aj_nI zs_51 is_43
theorem en_52 {J : aj_J} {pc : Nat} {L : aj_L} {st : List Value} {C : Nat × Nat} (h : J pc L (.ref 28 :: st) zs_52 is_44 aj_G0 C) : J pc L (.ref (zs_51.1 + 2) :: st) (aj_nZ zs_51 (.inr (0, 16))) (aj_nI zs_51 is_43) (aj_nG zs_51 aj_G0) C := by
  rw [aj_nG0, show zs_51.1 + 2 = 28 from rfl]
  exact h
def zs_53 : aj_Z := (zs_52.1, zs_52.2.1, aj_u2 zs_52.2.2 25 2 (.ref 28))
theorem en_53 {J : aj_J} {pc : Nat} {L : aj_L} {st : List Value} {C : Nat × Nat} {I : aj_I} {G : aj_G} (h : J pc L st zs_53 I G C) : J pc L st (zs_52.1, zs_52.2.1, aj_u2 zs_52.2.2 25 2 (.ref 28)) I G C := h
def zs_54 : aj_Z := aj_nZ zs_53 (.inr (1, 16))
def is_45 : aj_I := aj_nI zs_53 is_44
theorem en_54 {J : aj_J} {pc : Nat} {L : aj_L} {st : List Value} {C : Nat × Nat} (h : J pc L (.ref 29 :: st) zs_54 is_45 aj_G0 C) : J pc L (.ref (zs_53.1 + 2) :: st) (aj_nZ zs_53 (.inr (1, 16))) (aj_nI zs_53 is_44) (aj_nG zs_53 aj_G0) C := by
  rw [aj_nG0, show zs_53.1 + 2 = 29 from rfl]
  exact h
def zs_55 : aj_Z := (zs_54.1, zs_54.2.1, aj_u2 zs_54.2.2 25 3 (.ref 29))
theorem en_55 {J : aj_J} {pc : Nat} {L : aj_L} {st : List Value} {C : Nat × Nat} {I : aj_I} {G : aj_G} (h : J pc L st zs_55 I G C) : J pc L st (zs_54.1, zs_54.2.1, aj_u2 zs_54.2.2 25 3 (.ref 29)) I G C := h
def is_46 : aj_I := aj_u2 is_45 25 4 0
theorem ei_46 {J : aj_J} {pc : Nat} {L : aj_L} {st : List Value} {C : Nat × Nat} {Z : aj_Z} {G : aj_G} (h : J pc L st Z is_46 G C) : J pc L st Z (aj_u2 is_45 25 4 0) G C := h
def is_47 : aj_I := aj_u2 is_46 25 5 (-1)
theorem ei_47 {J : aj_J} {pc : Nat} {L : aj_L} {st : List Value} {C : Nat × Nat} {Z : aj_Z} {G : aj_G} (h : J pc L st Z is_47 G C) : J pc L st Z (aj_u2 is_46 25 5 (-1)) G C := h
def zs_56 : aj_Z := aj_nZ zs_55 (.inl 7)
def is_48 : aj_I := aj_nI zs_55 is_47
theorem en_56 {J : aj_J} {pc : Nat} {L : aj_L} {st : List Value} {C : Nat × Nat} (h : J pc L (.ref 30 :: st) zs_56 is_48 aj_G0 C) : J pc L (.ref (zs_55.1 + 2) :: st) (aj_nZ zs_55 (.inl 7)) (aj_nI zs_55 is_47) (aj_nG zs_55 aj_G0) C := by
  rw [aj_nG0, show zs_55.1 + 2 = 30 from rfl]
  exact h
def is_49 : aj_I := aj_u2 is_48 30 1 (-1)
theorem ei_49 {J : aj_J} {pc : Nat} {L : aj_L} {st : List Value} {C : Nat × Nat} {Z : aj_Z} {G : aj_G} (h : J pc L st Z is_49 G C) : J pc L st Z (aj_u2 is_48 30 1 (-1)) G C := h
def is_50 : aj_I := aj_u2 is_49 30 2 0
theorem ei_50 {J : aj_J} {pc : Nat} {L : aj_L} {st : List Value} {C : Nat × Nat} {Z : aj_Z} {G : aj_G} (h : J pc L st Z is_50 G C) : J pc L st Z (aj_u2 is_49 30 2 0) G C := h
def is_51 : aj_I := aj_u2 is_50 30 3 0
theorem ei_51 {J : aj_J} {pc : Nat} {L : aj_L} {st : List Value} {C : Nat × Nat} {Z : aj_Z} {G : aj_G} (h : J pc L st Z is_51 G C) : J pc L st Z (aj_u2 is_50 30 3 0) G C := h
def is_52 : aj_I := aj_u2 is_51 30 4 0
theorem ei_52 {J : aj_J} {pc : Nat} {L : aj_L} {st : List Value} {C : Nat × Nat} {Z : aj_Z} {G : aj_G} (h : J pc L st Z is_52 G C) : J pc L st Z (aj_u2 is_51 30 4 0) G C := h
def is_53 : aj_I := aj_u2 is_52 30 5 8
theorem ei_53 {J : aj_J} {pc : Nat} {L : aj_L} {st : List Value} {C : Nat × Nat} {Z : aj_Z} {G : aj_G} (h : J pc L st Z is_53 G C) : J pc L st Z (aj_u2 is_52 30 5 8) G C := h
def is_54 : aj_I := aj_u2 is_53 30 6 4
theorem ei_54 {J : aj_J} {pc : Nat} {L : aj_L} {st : List Value} {C : Nat × Nat} {Z : aj_Z} {G : aj_G} (h : J pc L st Z is_54 G C) : J pc L st Z (aj_u2 is_53 30 6 4) G C := h
def zs_57 : aj_Z := (zs_56.1, zs_56.2.1, aj_u2 zs_56.2.2 30 0 (.ref 17))
theorem en_57 {J : aj_J} {pc : Nat} {L : aj_L} {st : List Value} {C : Nat × Nat} {I : aj_I} {G : aj_G} (h : J pc L st zs_57 I G C) : J pc L st (zs_56.1, zs_56.2.1, aj_u2 zs_56.2.2 30 0 (.ref 17)) I G C := h
def zs_58 : aj_Z := (zs_57.1, zs_57.2.1, aj_u2 zs_57.2.2 26 0 (.ref 30))
theorem en_58 {J : aj_J} {pc : Nat} {L : aj_L} {st : List Value} {C : Nat × Nat} {I : aj_I} {G : aj_G} (h : J pc L st zs_58 I G C) : J pc L st (zs_57.1, zs_57.2.1, aj_u2 zs_57.2.2 26 0 (.ref 30)) I G C := h
def zs_59 : aj_Z := aj_nZ zs_58 (.inl 7)
def is_55 : aj_I := aj_nI zs_58 is_54
theorem en_59 {J : aj_J} {pc : Nat} {L : aj_L} {st : List Value} {C : Nat × Nat} (h : J pc L (.ref 31 :: st) zs_59 is_55 aj_G0 C) : J pc L (.ref (zs_58.1 + 2) :: st) (aj_nZ zs_58 (.inl 7)) (aj_nI zs_58 is_54) (aj_nG zs_58 aj_G0) C := by
  rw [aj_nG0, show zs_58.1 + 2 = 31 from rfl]
  exact h
def is_56 : aj_I := aj_u2 is_55 31 1 (-1)
theorem ei_56 {J : aj_J} {pc : Nat} {L : aj_L} {st : List Value} {C : Nat × Nat} {Z : aj_Z} {G : aj_G} (h : J pc L st Z is_56 G C) : J pc L st Z (aj_u2 is_55 31 1 (-1)) G C := h
def is_57 : aj_I := aj_u2 is_56 31 2 0
theorem ei_57 {J : aj_J} {pc : Nat} {L : aj_L} {st : List Value} {C : Nat × Nat} {Z : aj_Z} {G : aj_G} (h : J pc L st Z is_57 G C) : J pc L st Z (aj_u2 is_56 31 2 0) G C := h
def is_58 : aj_I := aj_u2 is_57 31 3 0
theorem ei_58 {J : aj_J} {pc : Nat} {L : aj_L} {st : List Value} {C : Nat × Nat} {Z : aj_Z} {G : aj_G} (h : J pc L st Z is_58 G C) : J pc L st Z (aj_u2 is_57 31 3 0) G C := h
def is_59 : aj_I := aj_u2 is_58 31 4 0
theorem ei_59 {J : aj_J} {pc : Nat} {L : aj_L} {st : List Value} {C : Nat × Nat} {Z : aj_Z} {G : aj_G} (h : J pc L st Z is_59 G C) : J pc L st Z (aj_u2 is_58 31 4 0) G C := h
def is_60 : aj_I := aj_u2 is_59 31 5 8
theorem ei_60 {J : aj_J} {pc : Nat} {L : aj_L} {st : List Value} {C : Nat × Nat} {Z : aj_Z} {G : aj_G} (h : J pc L st Z is_60 G C) : J pc L st Z (aj_u2 is_59 31 5 8) G C := h
def is_61 : aj_I := aj_u2 is_60 31 6 4
theorem ei_61 {J : aj_J} {pc : Nat} {L : aj_L} {st : List Value} {C : Nat × Nat} {Z : aj_Z} {G : aj_G} (h : J pc L st Z is_61 G C) : J pc L st Z (aj_u2 is_60 31 6 4) G C := h
def zs_60 : aj_Z := (zs_59.1, zs_59.2.1, aj_u2 zs_59.2.2 31 0 (.ref 17))
theorem en_60 {J : aj_J} {pc : Nat} {L : aj_L} {st : List Value} {C : Nat × Nat} {I : aj_I} {G : aj_G} (h : J pc L st zs_60 I G C) : J pc L st (zs_59.1, zs_59.2.1, aj_u2 zs_59.2.2 31 0 (.ref 17)) I G C := h
def zs_61 : aj_Z := (zs_60.1, zs_60.2.1, aj_u2 zs_60.2.2 26 1 (.ref 31))
theorem en_61 {J : aj_J} {pc : Nat} {L : aj_L} {st : List Value} {C : Nat × Nat} {I : aj_I} {G : aj_G} (h : J pc L st zs_61 I G C) : J pc L st (zs_60.1, zs_60.2.1, aj_u2 zs_60.2.2 26 1 (.ref 31)) I G C := h
def zs_62 : aj_Z := aj_nZ zs_61 (.inl 7)
def is_62 : aj_I := aj_nI zs_61 is_61
theorem en_62 {J : aj_J} {pc : Nat} {L : aj_L} {st : List Value} {C : Nat × Nat} (h : J pc L (.ref 32 :: st) zs_62 is_62 aj_G0 C) : J pc L (.ref (zs_61.1 + 2) :: st) (aj_nZ zs_61 (.inl 7)) (aj_nI zs_61 is_61) (aj_nG zs_61 aj_G0) C := by
  rw [aj_nG0, show zs_61.1 + 2 = 32 from rfl]
  exact h
def is_63 : aj_I := aj_u2 is_62 32 1 (-1)
theorem ei_63 {J : aj_J} {pc : Nat} {L : aj_L} {st : List Value} {C : Nat × Nat} {Z : aj_Z} {G : aj_G} (h : J pc L st Z is_63 G C) : J pc L st Z (aj_u2 is_62 32 1 (-1)) G C := h
def is_64 : aj_I := aj_u2 is_63 32 2 0
theorem ei_64 {J : aj_J} {pc : Nat} {L : aj_L} {st : List Value} {C : Nat × Nat} {Z : aj_Z} {G : aj_G} (h : J pc L st Z is_64 G C) : J pc L st Z (aj_u2 is_63 32 2 0) G C := h
def is_65 : aj_I := aj_u2 is_64 32 3 0
theorem ei_65 {J : aj_J} {pc : Nat} {L : aj_L} {st : List Value} {C : Nat × Nat} {Z : aj_Z} {G : aj_G} (h : J pc L st Z is_65 G C) : J pc L st Z (aj_u2 is_64 32 3 0) G C := h
def is_66 : aj_I := aj_u2 is_65 32 4 0
theorem ei_66 {J : aj_J} {pc : Nat} {L : aj_L} {st : List Value} {C : Nat × Nat} {Z : aj_Z} {G : aj_G} (h : J pc L st Z is_66 G C) : J pc L st Z (aj_u2 is_65 32 4 0) G C := h
def is_67 : aj_I := aj_u2 is_66 32 5 8
theorem ei_67 {J : aj_J} {pc : Nat} {L : aj_L} {st : List Value} {C : Nat × Nat} {Z : aj_Z} {G : aj_G} (h : J pc L st Z is_67 G C) : J pc L st Z (aj_u2 is_66 32 5 8) G C := h
def is_68 : aj_I := aj_u2 is_67 32 6 4
theorem ei_68 {J : aj_J} {pc : Nat} {L : aj_L} {st : List Value} {C : Nat × Nat} {Z : aj_Z} {G : aj_G} (h : J pc L st Z is_68 G C) : J pc L st Z (aj_u2 is_67 32 6 4) G C := h
def zs_63 : aj_Z := (zs_62.1, zs_62.2.1, aj_u2 zs_62.2.2 32 0 (.ref 17))
theorem en_63 {J : aj_J} {pc : Nat} {L : aj_L} {st : List Value} {C : Nat × Nat} {I : aj_I} {G : aj_G} (h : J pc L st zs_63 I G C) : J pc L st (zs_62.1, zs_62.2.1, aj_u2 zs_62.2.2 32 0 (.ref 17)) I G C := h
def zs_64 : aj_Z := (zs_63.1, zs_63.2.1, aj_u2 zs_63.2.2 26 2 (.ref 32))
theorem en_64 {J : aj_J} {pc : Nat} {L : aj_L} {st : List Value} {C : Nat × Nat} {I : aj_I} {G : aj_G} (h : J pc L st zs_64 I G C) : J pc L st (zs_63.1, zs_63.2.1, aj_u2 zs_63.2.2 26 2 (.ref 32)) I G C := h
def zs_65 : aj_Z := aj_nZ zs_64 (.inl 7)
def is_69 : aj_I := aj_nI zs_64 is_68
theorem en_65 {J : aj_J} {pc : Nat} {L : aj_L} {st : List Value} {C : Nat × Nat} (h : J pc L (.ref 33 :: st) zs_65 is_69 aj_G0 C) : J pc L (.ref (zs_64.1 + 2) :: st) (aj_nZ zs_64 (.inl 7)) (aj_nI zs_64 is_68) (aj_nG zs_64 aj_G0) C := by
  rw [aj_nG0, show zs_64.1 + 2 = 33 from rfl]
  exact h
def is_70 : aj_I := aj_u2 is_69 33 1 (-1)
theorem ei_70 {J : aj_J} {pc : Nat} {L : aj_L} {st : List Value} {C : Nat × Nat} {Z : aj_Z} {G : aj_G} (h : J pc L st Z is_70 G C) : J pc L st Z (aj_u2 is_69 33 1 (-1)) G C := h
def is_71 : aj_I := aj_u2 is_70 33 2 0
theorem ei_71 {J : aj_J} {pc : Nat} {L : aj_L} {st : List Value} {C : Nat × Nat} {Z : aj_Z} {G : aj_G} (h : J pc L st Z is_71 G C) : J pc L st Z (aj_u2 is_70 33 2 0) G C := h
def is_72 : aj_I := aj_u2 is_71 33 3 0
theorem ei_72 {J : aj_J} {pc : Nat} {L : aj_L} {st : List Value} {C : Nat × Nat} {Z : aj_Z} {G : aj_G} (h : J pc L st Z is_72 G C) : J pc L st Z (aj_u2 is_71 33 3 0) G C := h
def is_73 : aj_I := aj_u2 is_72 33 4 0
theorem ei_73 {J : aj_J} {pc : Nat} {L : aj_L} {st : List Value} {C : Nat × Nat} {Z : aj_Z} {G : aj_G} (h : J pc L st Z is_73 G C) : J pc L st Z (aj_u2 is_72 33 4 0) G C := h
def is_74 : aj_I := aj_u2 is_73 33 5 8
theorem ei_74 {J : aj_J} {pc : Nat} {L : aj_L} {st : List Value} {C : Nat × Nat} {Z : aj_Z} {G : aj_G} (h : J pc L st Z is_74 G C) : J pc L st Z (aj_u2 is_73 33 5 8) G C := h
def is_75 : aj_I := aj_u2 is_74 33 6 4
theorem ei_75 {J : aj_J} {pc : Nat} {L : aj_L} {st : List Value} {C : Nat × Nat} {Z : aj_Z} {G : aj_G} (h : J pc L st Z is_75 G C) : J pc L st Z (aj_u2 is_74 33 6 4) G C := h
def zs_66 : aj_Z := (zs_65.1, zs_65.2.1, aj_u2 zs_65.2.2 33 0 (.ref 17))
theorem en_66 {J : aj_J} {pc : Nat} {L : aj_L} {st : List Value} {C : Nat × Nat} {I : aj_I} {G : aj_G} (h : J pc L st zs_66 I G C) : J pc L st (zs_65.1, zs_65.2.1, aj_u2 zs_65.2.2 33 0 (.ref 17)) I G C := h
def zs_67 : aj_Z := (zs_66.1, zs_66.2.1, aj_u2 zs_66.2.2 26 3 (.ref 33))
theorem en_67 {J : aj_J} {pc : Nat} {L : aj_L} {st : List Value} {C : Nat × Nat} {I : aj_I} {G : aj_G} (h : J pc L st zs_67 I G C) : J pc L st (zs_66.1, zs_66.2.1, aj_u2 zs_66.2.2 26 3 (.ref 33)) I G C := h
def zs_68 : aj_Z := (zs_67.1, zs_67.2.1, aj_u2 zs_67.2.2 22 0 (.ref 25))
theorem en_68 {J : aj_J} {pc : Nat} {L : aj_L} {st : List Value} {C : Nat × Nat} {I : aj_I} {G : aj_G} (h : J pc L st zs_68 I G C) : J pc L st (zs_67.1, zs_67.2.1, aj_u2 zs_67.2.2 22 0 (.ref 25)) I G C := h
def zs_69 : aj_Z := aj_nZ zs_68 (.inl 9)
def is_76 : aj_I := aj_nI zs_68 is_75
theorem en_69 {J : aj_J} {pc : Nat} {L : aj_L} {st : List Value} {C : Nat × Nat} (h : J pc L (.ref 34 :: st) zs_69 is_76 aj_G0 C) : J pc L (.ref (zs_68.1 + 2) :: st) (aj_nZ zs_68 (.inl 9)) (aj_nI zs_68 is_75) (aj_nG zs_68 aj_G0) C := by
  rw [aj_nG0, show zs_68.1 + 2 = 34 from rfl]
  exact h
def zs_70 : aj_Z := aj_nZ zs_69 (.inr (6, 4))
def is_77 : aj_I := aj_nI zs_69 is_76
theorem en_70 {J : aj_J} {pc : Nat} {L : aj_L} {st : List Value} {C : Nat × Nat} (h : J pc L (.ref 35 :: st) zs_70 is_77 aj_G0 C) : J pc L (.ref (zs_69.1 + 2) :: st) (aj_nZ zs_69 (.inr (6, 4))) (aj_nI zs_69 is_76) (aj_nG zs_69 aj_G0) C := by
  rw [aj_nG0, show zs_69.1 + 2 = 35 from rfl]
  exact h
def zs_71 : aj_Z := (zs_70.1, zs_70.2.1, aj_u2 zs_70.2.2 34 0 (.ref 35))
theorem en_71 {J : aj_J} {pc : Nat} {L : aj_L} {st : List Value} {C : Nat × Nat} {I : aj_I} {G : aj_G} (h : J pc L st zs_71 I G C) : J pc L st (zs_70.1, zs_70.2.1, aj_u2 zs_70.2.2 34 0 (.ref 35)) I G C := h
def zs_72 : aj_Z := aj_nZ zs_71 (.inr (0, 16))
def is_78 : aj_I := aj_nI zs_71 is_77
theorem en_72 {J : aj_J} {pc : Nat} {L : aj_L} {st : List Value} {C : Nat × Nat} (h : J pc L (.ref 36 :: st) zs_72 is_78 aj_G0 C) : J pc L (.ref (zs_71.1 + 2) :: st) (aj_nZ zs_71 (.inr (0, 16))) (aj_nI zs_71 is_77) (aj_nG zs_71 aj_G0) C := by
  rw [aj_nG0, show zs_71.1 + 2 = 36 from rfl]
  exact h
def zs_73 : aj_Z := (zs_72.1, zs_72.2.1, aj_u2 zs_72.2.2 34 1 (.ref 36))
theorem en_73 {J : aj_J} {pc : Nat} {L : aj_L} {st : List Value} {C : Nat × Nat} {I : aj_I} {G : aj_G} (h : J pc L st zs_73 I G C) : J pc L st (zs_72.1, zs_72.2.1, aj_u2 zs_72.2.2 34 1 (.ref 36)) I G C := h
def zs_74 : aj_Z := aj_nZ zs_73 (.inr (0, 16))
def is_79 : aj_I := aj_nI zs_73 is_78
theorem en_74 {J : aj_J} {pc : Nat} {L : aj_L} {st : List Value} {C : Nat × Nat} (h : J pc L (.ref 37 :: st) zs_74 is_79 aj_G0 C) : J pc L (.ref (zs_73.1 + 2) :: st) (aj_nZ zs_73 (.inr (0, 16))) (aj_nI zs_73 is_78) (aj_nG zs_73 aj_G0) C := by
  rw [aj_nG0, show zs_73.1 + 2 = 37 from rfl]
  exact h
def zs_75 : aj_Z := (zs_74.1, zs_74.2.1, aj_u2 zs_74.2.2 34 2 (.ref 37))
theorem en_75 {J : aj_J} {pc : Nat} {L : aj_L} {st : List Value} {C : Nat × Nat} {I : aj_I} {G : aj_G} (h : J pc L st zs_75 I G C) : J pc L st (zs_74.1, zs_74.2.1, aj_u2 zs_74.2.2 34 2 (.ref 37)) I G C := h
def zs_76 : aj_Z := aj_nZ zs_75 (.inr (1, 16))
def is_80 : aj_I := aj_nI zs_75 is_79
theorem en_76 {J : aj_J} {pc : Nat} {L : aj_L} {st : List Value} {C : Nat × Nat} (h : J pc L (.ref 38 :: st) zs_76 is_80 aj_G0 C) : J pc L (.ref (zs_75.1 + 2) :: st) (aj_nZ zs_75 (.inr (1, 16))) (aj_nI zs_75 is_79) (aj_nG zs_75 aj_G0) C := by
  rw [aj_nG0, show zs_75.1 + 2 = 38 from rfl]
  exact h
def zs_77 : aj_Z := (zs_76.1, zs_76.2.1, aj_u2 zs_76.2.2 34 3 (.ref 38))
theorem en_77 {J : aj_J} {pc : Nat} {L : aj_L} {st : List Value} {C : Nat × Nat} {I : aj_I} {G : aj_G} (h : J pc L st zs_77 I G C) : J pc L st (zs_76.1, zs_76.2.1, aj_u2 zs_76.2.2 34 3 (.ref 38)) I G C := h
def is_81 : aj_I := aj_u2 is_80 34 4 0
theorem ei_81 {J : aj_J} {pc : Nat} {L : aj_L} {st : List Value} {C : Nat × Nat} {Z : aj_Z} {G : aj_G} (h : J pc L st Z is_81 G C) : J pc L st Z (aj_u2 is_80 34 4 0) G C := h
def is_82 : aj_I := aj_u2 is_81 34 5 (-1)
theorem ei_82 {J : aj_J} {pc : Nat} {L : aj_L} {st : List Value} {C : Nat × Nat} {Z : aj_Z} {G : aj_G} (h : J pc L st Z is_82 G C) : J pc L st Z (aj_u2 is_81 34 5 (-1)) G C := h
def zs_78 : aj_Z := aj_nZ zs_77 (.inl 7)
def is_83 : aj_I := aj_nI zs_77 is_82
theorem en_78 {J : aj_J} {pc : Nat} {L : aj_L} {st : List Value} {C : Nat × Nat} (h : J pc L (.ref 39 :: st) zs_78 is_83 aj_G0 C) : J pc L (.ref (zs_77.1 + 2) :: st) (aj_nZ zs_77 (.inl 7)) (aj_nI zs_77 is_82) (aj_nG zs_77 aj_G0) C := by
  rw [aj_nG0, show zs_77.1 + 2 = 39 from rfl]
  exact h
def is_84 : aj_I := aj_u2 is_83 39 1 (-1)
theorem ei_84 {J : aj_J} {pc : Nat} {L : aj_L} {st : List Value} {C : Nat × Nat} {Z : aj_Z} {G : aj_G} (h : J pc L st Z is_84 G C) : J pc L st Z (aj_u2 is_83 39 1 (-1)) G C := h
def is_85 : aj_I := aj_u2 is_84 39 2 0
theorem ei_85 {J : aj_J} {pc : Nat} {L : aj_L} {st : List Value} {C : Nat × Nat} {Z : aj_Z} {G : aj_G} (h : J pc L st Z is_85 G C) : J pc L st Z (aj_u2 is_84 39 2 0) G C := h
def is_86 : aj_I := aj_u2 is_85 39 3 0
theorem ei_86 {J : aj_J} {pc : Nat} {L : aj_L} {st : List Value} {C : Nat × Nat} {Z : aj_Z} {G : aj_G} (h : J pc L st Z is_86 G C) : J pc L st Z (aj_u2 is_85 39 3 0) G C := h
def is_87 : aj_I := aj_u2 is_86 39 4 0
theorem ei_87 {J : aj_J} {pc : Nat} {L : aj_L} {st : List Value} {C : Nat × Nat} {Z : aj_Z} {G : aj_G} (h : J pc L st Z is_87 G C) : J pc L st Z (aj_u2 is_86 39 4 0) G C := h
def is_88 : aj_I := aj_u2 is_87 39 5 8
theorem ei_88 {J : aj_J} {pc : Nat} {L : aj_L} {st : List Value} {C : Nat × Nat} {Z : aj_Z} {G : aj_G} (h : J pc L st Z is_88 G C) : J pc L st Z (aj_u2 is_87 39 5 8) G C := h
def is_89 : aj_I := aj_u2 is_88 39 6 4
theorem ei_89 {J : aj_J} {pc : Nat} {L : aj_L} {st : List Value} {C : Nat × Nat} {Z : aj_Z} {G : aj_G} (h : J pc L st Z is_89 G C) : J pc L st Z (aj_u2 is_88 39 6 4) G C := h
def zs_79 : aj_Z := (zs_78.1, zs_78.2.1, aj_u2 zs_78.2.2 39 0 (.ref 17))
theorem en_79 {J : aj_J} {pc : Nat} {L : aj_L} {st : List Value} {C : Nat × Nat} {I : aj_I} {G : aj_G} (h : J pc L st zs_79 I G C) : J pc L st (zs_78.1, zs_78.2.1, aj_u2 zs_78.2.2 39 0 (.ref 17)) I G C := h
def zs_80 : aj_Z := (zs_79.1, zs_79.2.1, aj_u2 zs_79.2.2 35 0 (.ref 39))
theorem en_80 {J : aj_J} {pc : Nat} {L : aj_L} {st : List Value} {C : Nat × Nat} {I : aj_I} {G : aj_G} (h : J pc L st zs_80 I G C) : J pc L st (zs_79.1, zs_79.2.1, aj_u2 zs_79.2.2 35 0 (.ref 39)) I G C := h
def zs_81 : aj_Z := aj_nZ zs_80 (.inl 7)
def is_90 : aj_I := aj_nI zs_80 is_89
theorem en_81 {J : aj_J} {pc : Nat} {L : aj_L} {st : List Value} {C : Nat × Nat} (h : J pc L (.ref 40 :: st) zs_81 is_90 aj_G0 C) : J pc L (.ref (zs_80.1 + 2) :: st) (aj_nZ zs_80 (.inl 7)) (aj_nI zs_80 is_89) (aj_nG zs_80 aj_G0) C := by
  rw [aj_nG0, show zs_80.1 + 2 = 40 from rfl]
  exact h
def is_91 : aj_I := aj_u2 is_90 40 1 (-1)
theorem ei_91 {J : aj_J} {pc : Nat} {L : aj_L} {st : List Value} {C : Nat × Nat} {Z : aj_Z} {G : aj_G} (h : J pc L st Z is_91 G C) : J pc L st Z (aj_u2 is_90 40 1 (-1)) G C := h
def is_92 : aj_I := aj_u2 is_91 40 2 0
theorem ei_92 {J : aj_J} {pc : Nat} {L : aj_L} {st : List Value} {C : Nat × Nat} {Z : aj_Z} {G : aj_G} (h : J pc L st Z is_92 G C) : J pc L st Z (aj_u2 is_91 40 2 0) G C := h
def is_93 : aj_I := aj_u2 is_92 40 3 0
theorem ei_93 {J : aj_J} {pc : Nat} {L : aj_L} {st : List Value} {C : Nat × Nat} {Z : aj_Z} {G : aj_G} (h : J pc L st Z is_93 G C) : J pc L st Z (aj_u2 is_92 40 3 0) G C := h
def is_94 : aj_I := aj_u2 is_93 40 4 0
theorem ei_94 {J : aj_J} {pc : Nat} {L : aj_L} {st : List Value} {C : Nat × Nat} {Z : aj_Z} {G : aj_G} (h : J pc L st Z is_94 G C) : J pc L st Z (aj_u2 is_93 40 4 0) G C := h
def is_95 : aj_I := aj_u2 is_94 40 5 8
theorem ei_95 {J : aj_J} {pc : Nat} {L : aj_L} {st : List Value} {C : Nat × Nat} {Z : aj_Z} {G : aj_G} (h : J pc L st Z is_95 G C) : J pc L st Z (aj_u2 is_94 40 5 8) G C := h
def is_96 : aj_I := aj_u2 is_95 40 6 4
theorem ei_96 {J : aj_J} {pc : Nat} {L : aj_L} {st : List Value} {C : Nat × Nat} {Z : aj_Z} {G : aj_G} (h : J pc L st Z is_96 G C) : J pc L st Z (aj_u2 is_95 40 6 4) G C := h
def zs_82 : aj_Z := (zs_81.1, zs_81.2.1, aj_u2 zs_81.2.2 40 0 (.ref 17))
theorem en_82 {J : aj_J} {pc : Nat} {L : aj_L} {st : List Value} {C : Nat × Nat} {I : aj_I} {G : aj_G} (h : J pc L st zs_82 I G C) : J pc L st (zs_81.1, zs_81.2.1, aj_u2 zs_81.2.2 40 0 (.ref 17)) I G C := h
def zs_83 : aj_Z := (zs_82.1, zs_82.2.1, aj_u2 zs_82.2.2 35 1 (.ref 40))
theorem en_83 {J : aj_J} {pc : Nat} {L : aj_L} {st : List Value} {C : Nat × Nat} {I : aj_I} {G : aj_G} (h : J pc L st zs_83 I G C) : J pc L st (zs_82.1, zs_82.2.1, aj_u2 zs_82.2.2 35 1 (.ref 40)) I G C := h
def zs_84 : aj_Z := aj_nZ zs_83 (.inl 7)
def is_97 : aj_I := aj_nI zs_83 is_96
theorem en_84 {J : aj_J} {pc : Nat} {L : aj_L} {st : List Value} {C : Nat × Nat} (h : J pc L (.ref 41 :: st) zs_84 is_97 aj_G0 C) : J pc L (.ref (zs_83.1 + 2) :: st) (aj_nZ zs_83 (.inl 7)) (aj_nI zs_83 is_96) (aj_nG zs_83 aj_G0) C := by
  rw [aj_nG0, show zs_83.1 + 2 = 41 from rfl]
  exact h
def is_98 : aj_I := aj_u2 is_97 41 1 (-1)
theorem ei_98 {J : aj_J} {pc : Nat} {L : aj_L} {st : List Value} {C : Nat × Nat} {Z : aj_Z} {G : aj_G} (h : J pc L st Z is_98 G C) : J pc L st Z (aj_u2 is_97 41 1 (-1)) G C := h
def is_99 : aj_I := aj_u2 is_98 41 2 0
theorem ei_99 {J : aj_J} {pc : Nat} {L : aj_L} {st : List Value} {C : Nat × Nat} {Z : aj_Z} {G : aj_G} (h : J pc L st Z is_99 G C) : J pc L st Z (aj_u2 is_98 41 2 0) G C := h
def is_100 : aj_I := aj_u2 is_99 41 3 0
theorem ei_100 {J : aj_J} {pc : Nat} {L : aj_L} {st : List Value} {C : Nat × Nat} {Z : aj_Z} {G : aj_G} (h : J pc L st Z is_100 G C) : J pc L st Z (aj_u2 is_99 41 3 0) G C := h
def is_101 : aj_I := aj_u2 is_100 41 4 0
theorem ei_101 {J : aj_J} {pc : Nat} {L : aj_L} {st : List Value} {C : Nat × Nat} {Z : aj_Z} {G : aj_G} (h : J pc L st Z is_101 G C) : J pc L st Z (aj_u2 is_100 41 4 0) G C := h
def is_102 : aj_I := aj_u2 is_101 41 5 8
theorem ei_102 {J : aj_J} {pc : Nat} {L : aj_L} {st : List Value} {C : Nat × Nat} {Z : aj_Z} {G : aj_G} (h : J pc L st Z is_102 G C) : J pc L st Z (aj_u2 is_101 41 5 8) G C := h
def is_103 : aj_I := aj_u2 is_102 41 6 4
theorem ei_103 {J : aj_J} {pc : Nat} {L : aj_L} {st : List Value} {C : Nat × Nat} {Z : aj_Z} {G : aj_G} (h : J pc L st Z is_103 G C) : J pc L st Z (aj_u2 is_102 41 6 4) G C := h
def zs_85 : aj_Z := (zs_84.1, zs_84.2.1, aj_u2 zs_84.2.2 41 0 (.ref 17))
theorem en_85 {J : aj_J} {pc : Nat} {L : aj_L} {st : List Value} {C : Nat × Nat} {I : aj_I} {G : aj_G} (h : J pc L st zs_85 I G C) : J pc L st (zs_84.1, zs_84.2.1, aj_u2 zs_84.2.2 41 0 (.ref 17)) I G C := h
def zs_86 : aj_Z := (zs_85.1, zs_85.2.1, aj_u2 zs_85.2.2 35 2 (.ref 41))
theorem en_86 {J : aj_J} {pc : Nat} {L : aj_L} {st : List Value} {C : Nat × Nat} {I : aj_I} {G : aj_G} (h : J pc L st zs_86 I G C) : J pc L st (zs_85.1, zs_85.2.1, aj_u2 zs_85.2.2 35 2 (.ref 41)) I G C := h
def zs_87 : aj_Z := aj_nZ zs_86 (.inl 7)
def is_104 : aj_I := aj_nI zs_86 is_103
theorem en_87 {J : aj_J} {pc : Nat} {L : aj_L} {st : List Value} {C : Nat × Nat} (h : J pc L (.ref 42 :: st) zs_87 is_104 aj_G0 C) : J pc L (.ref (zs_86.1 + 2) :: st) (aj_nZ zs_86 (.inl 7)) (aj_nI zs_86 is_103) (aj_nG zs_86 aj_G0) C := by
  rw [aj_nG0, show zs_86.1 + 2 = 42 from rfl]
  exact h
def is_105 : aj_I := aj_u2 is_104 42 1 (-1)
theorem ei_105 {J : aj_J} {pc : Nat} {L : aj_L} {st : List Value} {C : Nat × Nat} {Z : aj_Z} {G : aj_G} (h : J pc L st Z is_105 G C) : J pc L st Z (aj_u2 is_104 42 1 (-1)) G C := h
def is_106 : aj_I := aj_u2 is_105 42 2 0
theorem ei_106 {J : aj_J} {pc : Nat} {L : aj_L} {st : List Value} {C : Nat × Nat} {Z : aj_Z} {G : aj_G} (h : J pc L st Z is_106 G C) : J pc L st Z (aj_u2 is_105 42 2 0) G C := h
def is_107 : aj_I := aj_u2 is_106 42 3 0
theorem ei_107 {J : aj_J} {pc : Nat} {L : aj_L} {st : List Value} {C : Nat × Nat} {Z : aj_Z} {G : aj_G} (h : J pc L st Z is_107 G C) : J pc L st Z (aj_u2 is_106 42 3 0) G C := h
def is_108 : aj_I := aj_u2 is_107 42 4 0
theorem ei_108 {J : aj_J} {pc : Nat} {L : aj_L} {st : List Value} {C : Nat × Nat} {Z : aj_Z} {G : aj_G} (h : J pc L st Z is_108 G C) : J pc L st Z (aj_u2 is_107 42 4 0) G C := h
def is_109 : aj_I := aj_u2 is_108 42 5 8
theorem ei_109 {J : aj_J} {pc : Nat} {L : aj_L} {st : List Value} {C : Nat × Nat} {Z : aj_Z} {G : aj_G} (h : J pc L st Z is_109 G C) : J pc L st Z (aj_u2 is_108 42 5 8) G C := h
def is_110 : aj_I := aj_u2 is_109 42 6 4
theorem ei_110 {J : aj_J} {pc : Nat} {L : aj_L} {st : List Value} {C : Nat × Nat} {Z : aj_Z} {G : aj_G} (h : J pc L st Z is_110 G C) : J pc L st Z (aj_u2 is_109 42 6 4) G C := h
def zs_88 : aj_Z := (zs_87.1, zs_87.2.1, aj_u2 zs_87.2.2 42 0 (.ref 17))
theorem en_88 {J : aj_J} {pc : Nat} {L : aj_L} {st : List Value} {C : Nat × Nat} {I : aj_I} {G : aj_G} (h : J pc L st zs_88 I G C) : J pc L st (zs_87.1, zs_87.2.1, aj_u2 zs_87.2.2 42 0 (.ref 17)) I G C := h
def zs_89 : aj_Z := (zs_88.1, zs_88.2.1, aj_u2 zs_88.2.2 35 3 (.ref 42))
theorem en_89 {J : aj_J} {pc : Nat} {L : aj_L} {st : List Value} {C : Nat × Nat} {I : aj_I} {G : aj_G} (h : J pc L st zs_89 I G C) : J pc L st (zs_88.1, zs_88.2.1, aj_u2 zs_88.2.2 35 3 (.ref 42)) I G C := h
def zs_90 : aj_Z := (zs_89.1, zs_89.2.1, aj_u2 zs_89.2.2 22 1 (.ref 34))
theorem en_90 {J : aj_J} {pc : Nat} {L : aj_L} {st : List Value} {C : Nat × Nat} {I : aj_I} {G : aj_G} (h : J pc L st zs_90 I G C) : J pc L st (zs_89.1, zs_89.2.1, aj_u2 zs_89.2.2 22 1 (.ref 34)) I G C := h
def zs_91 : aj_Z := aj_nZ zs_90 (.inl 9)
def is_111 : aj_I := aj_nI zs_90 is_110
theorem en_91 {J : aj_J} {pc : Nat} {L : aj_L} {st : List Value} {C : Nat × Nat} (h : J pc L (.ref 43 :: st) zs_91 is_111 aj_G0 C) : J pc L (.ref (zs_90.1 + 2) :: st) (aj_nZ zs_90 (.inl 9)) (aj_nI zs_90 is_110) (aj_nG zs_90 aj_G0) C := by
  rw [aj_nG0, show zs_90.1 + 2 = 43 from rfl]
  exact h
def zs_92 : aj_Z := aj_nZ zs_91 (.inr (6, 4))
def is_112 : aj_I := aj_nI zs_91 is_111
theorem en_92 {J : aj_J} {pc : Nat} {L : aj_L} {st : List Value} {C : Nat × Nat} (h : J pc L (.ref 44 :: st) zs_92 is_112 aj_G0 C) : J pc L (.ref (zs_91.1 + 2) :: st) (aj_nZ zs_91 (.inr (6, 4))) (aj_nI zs_91 is_111) (aj_nG zs_91 aj_G0) C := by
  rw [aj_nG0, show zs_91.1 + 2 = 44 from rfl]
  exact h
def zs_93 : aj_Z := (zs_92.1, zs_92.2.1, aj_u2 zs_92.2.2 43 0 (.ref 44))
theorem en_93 {J : aj_J} {pc : Nat} {L : aj_L} {st : List Value} {C : Nat × Nat} {I : aj_I} {G : aj_G} (h : J pc L st zs_93 I G C) : J pc L st (zs_92.1, zs_92.2.1, aj_u2 zs_92.2.2 43 0 (.ref 44)) I G C := h
def zs_94 : aj_Z := aj_nZ zs_93 (.inr (0, 16))
def is_113 : aj_I := aj_nI zs_93 is_112
theorem en_94 {J : aj_J} {pc : Nat} {L : aj_L} {st : List Value} {C : Nat × Nat} (h : J pc L (.ref 45 :: st) zs_94 is_113 aj_G0 C) : J pc L (.ref (zs_93.1 + 2) :: st) (aj_nZ zs_93 (.inr (0, 16))) (aj_nI zs_93 is_112) (aj_nG zs_93 aj_G0) C := by
  rw [aj_nG0, show zs_93.1 + 2 = 45 from rfl]
  exact h
def zs_95 : aj_Z := (zs_94.1, zs_94.2.1, aj_u2 zs_94.2.2 43 1 (.ref 45))
theorem en_95 {J : aj_J} {pc : Nat} {L : aj_L} {st : List Value} {C : Nat × Nat} {I : aj_I} {G : aj_G} (h : J pc L st zs_95 I G C) : J pc L st (zs_94.1, zs_94.2.1, aj_u2 zs_94.2.2 43 1 (.ref 45)) I G C := h
def zs_96 : aj_Z := aj_nZ zs_95 (.inr (0, 16))
def is_114 : aj_I := aj_nI zs_95 is_113
theorem en_96 {J : aj_J} {pc : Nat} {L : aj_L} {st : List Value} {C : Nat × Nat} (h : J pc L (.ref 46 :: st) zs_96 is_114 aj_G0 C) : J pc L (.ref (zs_95.1 + 2) :: st) (aj_nZ zs_95 (.inr (0, 16))) (aj_nI zs_95 is_113) (aj_nG zs_95 aj_G0) C := by
  rw [aj_nG0, show zs_95.1 + 2 = 46 from rfl]
  exact h
def zs_97 : aj_Z := (zs_96.1, zs_96.2.1, aj_u2 zs_96.2.2 43 2 (.ref 46))
theorem en_97 {J : aj_J} {pc : Nat} {L : aj_L} {st : List Value} {C : Nat × Nat} {I : aj_I} {G : aj_G} (h : J pc L st zs_97 I G C) : J pc L st (zs_96.1, zs_96.2.1, aj_u2 zs_96.2.2 43 2 (.ref 46)) I G C := h
def zs_98 : aj_Z := aj_nZ zs_97 (.inr (1, 16))
def is_115 : aj_I := aj_nI zs_97 is_114
theorem en_98 {J : aj_J} {pc : Nat} {L : aj_L} {st : List Value} {C : Nat × Nat} (h : J pc L (.ref 47 :: st) zs_98 is_115 aj_G0 C) : J pc L (.ref (zs_97.1 + 2) :: st) (aj_nZ zs_97 (.inr (1, 16))) (aj_nI zs_97 is_114) (aj_nG zs_97 aj_G0) C := by
  rw [aj_nG0, show zs_97.1 + 2 = 47 from rfl]
  exact h
def zs_99 : aj_Z := (zs_98.1, zs_98.2.1, aj_u2 zs_98.2.2 43 3 (.ref 47))
theorem en_99 {J : aj_J} {pc : Nat} {L : aj_L} {st : List Value} {C : Nat × Nat} {I : aj_I} {G : aj_G} (h : J pc L st zs_99 I G C) : J pc L st (zs_98.1, zs_98.2.1, aj_u2 zs_98.2.2 43 3 (.ref 47)) I G C := h
def is_116 : aj_I := aj_u2 is_115 43 4 0
theorem ei_116 {J : aj_J} {pc : Nat} {L : aj_L} {st : List Value} {C : Nat × Nat} {Z : aj_Z} {G : aj_G} (h : J pc L st Z is_116 G C) : J pc L st Z (aj_u2 is_115 43 4 0) G C := h
def is_117 : aj_I := aj_u2 is_116 43 5 (-1)
theorem ei_117 {J : aj_J} {pc : Nat} {L : aj_L} {st : List Value} {C : Nat × Nat} {Z : aj_Z} {G : aj_G} (h : J pc L st Z is_117 G C) : J pc L st Z (aj_u2 is_116 43 5 (-1)) G C := h
def zs_100 : aj_Z := aj_nZ zs_99 (.inl 7)
def is_118 : aj_I := aj_nI zs_99 is_117
theorem en_100 {J : aj_J} {pc : Nat} {L : aj_L} {st : List Value} {C : Nat × Nat} (h : J pc L (.ref 48 :: st) zs_100 is_118 aj_G0 C) : J pc L (.ref (zs_99.1 + 2) :: st) (aj_nZ zs_99 (.inl 7)) (aj_nI zs_99 is_117) (aj_nG zs_99 aj_G0) C := by
  rw [aj_nG0, show zs_99.1 + 2 = 48 from rfl]
  exact h
def is_119 : aj_I := aj_u2 is_118 48 1 (-1)
theorem ei_119 {J : aj_J} {pc : Nat} {L : aj_L} {st : List Value} {C : Nat × Nat} {Z : aj_Z} {G : aj_G} (h : J pc L st Z is_119 G C) : J pc L st Z (aj_u2 is_118 48 1 (-1)) G C := h
def is_120 : aj_I := aj_u2 is_119 48 2 0
theorem ei_120 {J : aj_J} {pc : Nat} {L : aj_L} {st : List Value} {C : Nat × Nat} {Z : aj_Z} {G : aj_G} (h : J pc L st Z is_120 G C) : J pc L st Z (aj_u2 is_119 48 2 0) G C := h
def is_121 : aj_I := aj_u2 is_120 48 3 0
theorem ei_121 {J : aj_J} {pc : Nat} {L : aj_L} {st : List Value} {C : Nat × Nat} {Z : aj_Z} {G : aj_G} (h : J pc L st Z is_121 G C) : J pc L st Z (aj_u2 is_120 48 3 0) G C := h
def is_122 : aj_I := aj_u2 is_121 48 4 0
theorem ei_122 {J : aj_J} {pc : Nat} {L : aj_L} {st : List Value} {C : Nat × Nat} {Z : aj_Z} {G : aj_G} (h : J pc L st Z is_122 G C) : J pc L st Z (aj_u2 is_121 48 4 0) G C := h
def is_123 : aj_I := aj_u2 is_122 48 5 8
theorem ei_123 {J : aj_J} {pc : Nat} {L : aj_L} {st : List Value} {C : Nat × Nat} {Z : aj_Z} {G : aj_G} (h : J pc L st Z is_123 G C) : J pc L st Z (aj_u2 is_122 48 5 8) G C := h
def is_124 : aj_I := aj_u2 is_123 48 6 4
theorem ei_124 {J : aj_J} {pc : Nat} {L : aj_L} {st : List Value} {C : Nat × Nat} {Z : aj_Z} {G : aj_G} (h : J pc L st Z is_124 G C) : J pc L st Z (aj_u2 is_123 48 6 4) G C := h
def zs_101 : aj_Z := (zs_100.1, zs_100.2.1, aj_u2 zs_100.2.2 48 0 (.ref 17))
theorem en_101 {J : aj_J} {pc : Nat} {L : aj_L} {st : List Value} {C : Nat × Nat} {I : aj_I} {G : aj_G} (h : J pc L st zs_101 I G C) : J pc L st (zs_100.1, zs_100.2.1, aj_u2 zs_100.2.2 48 0 (.ref 17)) I G C := h
def zs_102 : aj_Z := (zs_101.1, zs_101.2.1, aj_u2 zs_101.2.2 44 0 (.ref 48))
theorem en_102 {J : aj_J} {pc : Nat} {L : aj_L} {st : List Value} {C : Nat × Nat} {I : aj_I} {G : aj_G} (h : J pc L st zs_102 I G C) : J pc L st (zs_101.1, zs_101.2.1, aj_u2 zs_101.2.2 44 0 (.ref 48)) I G C := h
def zs_103 : aj_Z := aj_nZ zs_102 (.inl 7)
def is_125 : aj_I := aj_nI zs_102 is_124
theorem en_103 {J : aj_J} {pc : Nat} {L : aj_L} {st : List Value} {C : Nat × Nat} (h : J pc L (.ref 49 :: st) zs_103 is_125 aj_G0 C) : J pc L (.ref (zs_102.1 + 2) :: st) (aj_nZ zs_102 (.inl 7)) (aj_nI zs_102 is_124) (aj_nG zs_102 aj_G0) C := by
  rw [aj_nG0, show zs_102.1 + 2 = 49 from rfl]
  exact h
def is_126 : aj_I := aj_u2 is_125 49 1 (-1)
theorem ei_126 {J : aj_J} {pc : Nat} {L : aj_L} {st : List Value} {C : Nat × Nat} {Z : aj_Z} {G : aj_G} (h : J pc L st Z is_126 G C) : J pc L st Z (aj_u2 is_125 49 1 (-1)) G C := h
def is_127 : aj_I := aj_u2 is_126 49 2 0
theorem ei_127 {J : aj_J} {pc : Nat} {L : aj_L} {st : List Value} {C : Nat × Nat} {Z : aj_Z} {G : aj_G} (h : J pc L st Z is_127 G C) : J pc L st Z (aj_u2 is_126 49 2 0) G C := h
def is_128 : aj_I := aj_u2 is_127 49 3 0
theorem ei_128 {J : aj_J} {pc : Nat} {L : aj_L} {st : List Value} {C : Nat × Nat} {Z : aj_Z} {G : aj_G} (h : J pc L st Z is_128 G C) : J pc L st Z (aj_u2 is_127 49 3 0) G C := h
def is_129 : aj_I := aj_u2 is_128 49 4 0
theorem ei_129 {J : aj_J} {pc : Nat} {L : aj_L} {st : List Value} {C : Nat × Nat} {Z : aj_Z} {G : aj_G} (h : J pc L st Z is_129 G C) : J pc L st Z (aj_u2 is_128 49 4 0) G C := h
def is_130 : aj_I := aj_u2 is_129 49 5 8
theorem ei_130 {J : aj_J} {pc : Nat} {L : aj_L} {st : List Value} {C : Nat × Nat} {Z : aj_Z} {G : aj_G} (h : J pc L st Z is_130 G C) : J pc L st Z (aj_u2 is_129 49 5 8) G C := h
def is_131 : aj_I := aj_u2 is_130 49 6 4
theorem ei_131 {J : aj_J} {pc : Nat} {L : aj_L} {st : List Value} {C : Nat × Nat} {Z : aj_Z} {G : aj_G} (h : J pc L st Z is_131 G C) : J pc L st Z (aj_u2 is_130 49 6 4) G C := h
def zs_104 : aj_Z := (zs_103.1, zs_103.2.1, aj_u2 zs_103.2.2 49 0 (.ref 17))
theorem en_104 {J : aj_J} {pc : Nat} {L : aj_L} {st : List Value} {C : Nat × Nat} {I : aj_I} {G : aj_G} (h : J pc L st zs_104 I G C) : J pc L st (zs_103.1, zs_103.2.1, aj_u2 zs_103.2.2 49 0 (.ref 17)) I G C := h
def zs_105 : aj_Z := (zs_104.1, zs_104.2.1, aj_u2 zs_104.2.2 44 1 (.ref 49))
theorem en_105 {J : aj_J} {pc : Nat} {L : aj_L} {st : List Value} {C : Nat × Nat} {I : aj_I} {G : aj_G} (h : J pc L st zs_105 I G C) : J pc L st (zs_104.1, zs_104.2.1, aj_u2 zs_104.2.2 44 1 (.ref 49)) I G C := h
def zs_106 : aj_Z := aj_nZ zs_105 (.inl 7)
def is_132 : aj_I := aj_nI zs_105 is_131
theorem en_106 {J : aj_J} {pc : Nat} {L : aj_L} {st : List Value} {C : Nat × Nat} (h : J pc L (.ref 50 :: st) zs_106 is_132 aj_G0 C) : J pc L (.ref (zs_105.1 + 2) :: st) (aj_nZ zs_105 (.inl 7)) (aj_nI zs_105 is_131) (aj_nG zs_105 aj_G0) C := by
  rw [aj_nG0, show zs_105.1 + 2 = 50 from rfl]
  exact h
def is_133 : aj_I := aj_u2 is_132 50 1 (-1)
theorem ei_133 {J : aj_J} {pc : Nat} {L : aj_L} {st : List Value} {C : Nat × Nat} {Z : aj_Z} {G : aj_G} (h : J pc L st Z is_133 G C) : J pc L st Z (aj_u2 is_132 50 1 (-1)) G C := h
def is_134 : aj_I := aj_u2 is_133 50 2 0
theorem ei_134 {J : aj_J} {pc : Nat} {L : aj_L} {st : List Value} {C : Nat × Nat} {Z : aj_Z} {G : aj_G} (h : J pc L st Z is_134 G C) : J pc L st Z (aj_u2 is_133 50 2 0) G C := h
def is_135 : aj_I := aj_u2 is_134 50 3 0
theorem ei_135 {J : aj_J} {pc : Nat} {L : aj_L} {st : List Value} {C : Nat × Nat} {Z : aj_Z} {G : aj_G} (h : J pc L st Z is_135 G C) : J pc L st Z (aj_u2 is_134 50 3 0) G C := h
def is_136 : aj_I := aj_u2 is_135 50 4 0
theorem ei_136 {J : aj_J} {pc : Nat} {L : aj_L} {st : List Value} {C : Nat × Nat} {Z : aj_Z} {G : aj_G} (h : J pc L st Z is_136 G C) : J pc L st Z (aj_u2 is_135 50 4 0) G C := h
def is_137 : aj_I := aj_u2 is_136 50 5 8
theorem ei_137 {J : aj_J} {pc : Nat} {L : aj_L} {st : List Value} {C : Nat × Nat} {Z : aj_Z} {G : aj_G} (h : J pc L st Z is_137 G C) : J pc L st Z (aj_u2 is_136 50 5 8) G C := h
def is_138 : aj_I := aj_u2 is_137 50 6 4
theorem ei_138 {J : aj_J} {pc : Nat} {L : aj_L} {st : List Value} {C : Nat × Nat} {Z : aj_Z} {G : aj_G} (h : J pc L st Z is_138 G C) : J pc L st Z (aj_u2 is_137 50 6 4) G C := h
def zs_107 : aj_Z := (zs_106.1, zs_106.2.1, aj_u2 zs_106.2.2 50 0 (.ref 17))
theorem en_107 {J : aj_J} {pc : Nat} {L : aj_L} {st : List Value} {C : Nat × Nat} {I : aj_I} {G : aj_G} (h : J pc L st zs_107 I G C) : J pc L st (zs_106.1, zs_106.2.1, aj_u2 zs_106.2.2 50 0 (.ref 17)) I G C := h
def zs_108 : aj_Z := (zs_107.1, zs_107.2.1, aj_u2 zs_107.2.2 44 2 (.ref 50))
theorem en_108 {J : aj_J} {pc : Nat} {L : aj_L} {st : List Value} {C : Nat × Nat} {I : aj_I} {G : aj_G} (h : J pc L st zs_108 I G C) : J pc L st (zs_107.1, zs_107.2.1, aj_u2 zs_107.2.2 44 2 (.ref 50)) I G C := h
def zs_109 : aj_Z := aj_nZ zs_108 (.inl 7)
def is_139 : aj_I := aj_nI zs_108 is_138
theorem en_109 {J : aj_J} {pc : Nat} {L : aj_L} {st : List Value} {C : Nat × Nat} (h : J pc L (.ref 51 :: st) zs_109 is_139 aj_G0 C) : J pc L (.ref (zs_108.1 + 2) :: st) (aj_nZ zs_108 (.inl 7)) (aj_nI zs_108 is_138) (aj_nG zs_108 aj_G0) C := by
  rw [aj_nG0, show zs_108.1 + 2 = 51 from rfl]
  exact h
def is_140 : aj_I := aj_u2 is_139 51 1 (-1)
theorem ei_140 {J : aj_J} {pc : Nat} {L : aj_L} {st : List Value} {C : Nat × Nat} {Z : aj_Z} {G : aj_G} (h : J pc L st Z is_140 G C) : J pc L st Z (aj_u2 is_139 51 1 (-1)) G C := h
def is_141 : aj_I := aj_u2 is_140 51 2 0
theorem ei_141 {J : aj_J} {pc : Nat} {L : aj_L} {st : List Value} {C : Nat × Nat} {Z : aj_Z} {G : aj_G} (h : J pc L st Z is_141 G C) : J pc L st Z (aj_u2 is_140 51 2 0) G C := h
def is_142 : aj_I := aj_u2 is_141 51 3 0
theorem ei_142 {J : aj_J} {pc : Nat} {L : aj_L} {st : List Value} {C : Nat × Nat} {Z : aj_Z} {G : aj_G} (h : J pc L st Z is_142 G C) : J pc L st Z (aj_u2 is_141 51 3 0) G C := h
def is_143 : aj_I := aj_u2 is_142 51 4 0
theorem ei_143 {J : aj_J} {pc : Nat} {L : aj_L} {st : List Value} {C : Nat × Nat} {Z : aj_Z} {G : aj_G} (h : J pc L st Z is_143 G C) : J pc L st Z (aj_u2 is_142 51 4 0) G C := h
def is_144 : aj_I := aj_u2 is_143 51 5 8
theorem ei_144 {J : aj_J} {pc : Nat} {L : aj_L} {st : List Value} {C : Nat × Nat} {Z : aj_Z} {G : aj_G} (h : J pc L st Z is_144 G C) : J pc L st Z (aj_u2 is_143 51 5 8) G C := h
def is_145 : aj_I := aj_u2 is_144 51 6 4
theorem ei_145 {J : aj_J} {pc : Nat} {L : aj_L} {st : List Value} {C : Nat × Nat} {Z : aj_Z} {G : aj_G} (h : J pc L st Z is_145 G C) : J pc L st Z (aj_u2 is_144 51 6 4) G C := h
def zs_110 : aj_Z := (zs_109.1, zs_109.2.1, aj_u2 zs_109.2.2 51 0 (.ref 17))
theorem en_110 {J : aj_J} {pc : Nat} {L : aj_L} {st : List Value} {C : Nat × Nat} {I : aj_I} {G : aj_G} (h : J pc L st zs_110 I G C) : J pc L st (zs_109.1, zs_109.2.1, aj_u2 zs_109.2.2 51 0 (.ref 17)) I G C := h
def zs_111 : aj_Z := (zs_110.1, zs_110.2.1, aj_u2 zs_110.2.2 44 3 (.ref 51))
theorem en_111 {J : aj_J} {pc : Nat} {L : aj_L} {st : List Value} {C : Nat × Nat} {I : aj_I} {G : aj_G} (h : J pc L st zs_111 I G C) : J pc L st (zs_110.1, zs_110.2.1, aj_u2 zs_110.2.2 44 3 (.ref 51)) I G C := h
def zs_112 : aj_Z := (zs_111.1, zs_111.2.1, aj_u2 zs_111.2.2 22 2 (.ref 43))
theorem en_112 {J : aj_J} {pc : Nat} {L : aj_L} {st : List Value} {C : Nat × Nat} {I : aj_I} {G : aj_G} (h : J pc L st zs_112 I G C) : J pc L st (zs_111.1, zs_111.2.1, aj_u2 zs_111.2.2 22 2 (.ref 43)) I G C := h
def zs_113 : aj_Z := (zs_112.1, zs_112.2.1, aj_u2 zs_112.2.2 21 11 (.ref 25))
theorem en_113 {J : aj_J} {pc : Nat} {L : aj_L} {st : List Value} {C : Nat × Nat} {I : aj_I} {G : aj_G} (h : J pc L st zs_113 I G C) : J pc L st (zs_112.1, zs_112.2.1, aj_u2 zs_112.2.2 21 11 (.ref 25)) I G C := h
def zs_114 : aj_Z := (zs_113.1, zs_113.2.1, aj_u2 zs_113.2.2 19 2 (.ref 21))
theorem en_114 {J : aj_J} {pc : Nat} {L : aj_L} {st : List Value} {C : Nat × Nat} {I : aj_I} {G : aj_G} (h : J pc L st zs_114 I G C) : J pc L st (zs_113.1, zs_113.2.1, aj_u2 zs_113.2.2 19 2 (.ref 21)) I G C := h
def zs_115 : aj_Z := (zs_114.1, zs_114.2.1, aj_u2 zs_114.2.2 2 2 (.ref 19))
theorem en_115 {J : aj_J} {pc : Nat} {L : aj_L} {st : List Value} {C : Nat × Nat} {I : aj_I} {G : aj_G} (h : J pc L st zs_115 I G C) : J pc L st (zs_114.1, zs_114.2.1, aj_u2 zs_114.2.2 2 2 (.ref 19)) I G C := h
def zs_116 : aj_Z := aj_nZ zs_115 (.inl 10)
def is_146 : aj_I := aj_nI zs_115 is_145
theorem en_116 {J : aj_J} {pc : Nat} {L : aj_L} {st : List Value} {C : Nat × Nat} (h : J pc L (.ref 52 :: st) zs_116 is_146 aj_G0 C) : J pc L (.ref (zs_115.1 + 2) :: st) (aj_nZ zs_115 (.inl 10)) (aj_nI zs_115 is_145) (aj_nG zs_115 aj_G0) C := by
  rw [aj_nG0, show zs_115.1 + 2 = 52 from rfl]
  exact h
def zs_117 : aj_Z := aj_nZ zs_116 (.inr (0, 48))
def is_147 : aj_I := aj_nI zs_116 is_146
theorem en_117 {J : aj_J} {pc : Nat} {L : aj_L} {st : List Value} {C : Nat × Nat} (h : J pc L (.ref 53 :: st) zs_117 is_147 aj_G0 C) : J pc L (.ref (zs_116.1 + 2) :: st) (aj_nZ zs_116 (.inr (0, 48))) (aj_nI zs_116 is_146) (aj_nG zs_116 aj_G0) C := by
  rw [aj_nG0, show zs_116.1 + 2 = 53 from rfl]
  exact h
def zs_118 : aj_Z := (zs_117.1, zs_117.2.1, aj_u2 zs_117.2.2 52 2 (.ref 53))
theorem en_118 {J : aj_J} {pc : Nat} {L : aj_L} {st : List Value} {C : Nat × Nat} {I : aj_I} {G : aj_G} (h : J pc L st zs_118 I G C) : J pc L st (zs_117.1, zs_117.2.1, aj_u2 zs_117.2.2 52 2 (.ref 53)) I G C := h
def is_148 : aj_I := aj_u2 is_147 52 3 1
theorem ei_148 {J : aj_J} {pc : Nat} {L : aj_L} {st : List Value} {C : Nat × Nat} {Z : aj_Z} {G : aj_G} (h : J pc L st Z is_148 G C) : J pc L st Z (aj_u2 is_147 52 3 1) G C := h
def is_149 : aj_I := aj_u2 is_148 52 4 0
theorem ei_149 {J : aj_J} {pc : Nat} {L : aj_L} {st : List Value} {C : Nat × Nat} {Z : aj_Z} {G : aj_G} (h : J pc L st Z is_149 G C) : J pc L st Z (aj_u2 is_148 52 4 0) G C := h
def is_150 : aj_I := aj_u2 is_149 52 5 0
theorem ei_150 {J : aj_J} {pc : Nat} {L : aj_L} {st : List Value} {C : Nat × Nat} {Z : aj_Z} {G : aj_G} (h : J pc L st Z is_150 G C) : J pc L st Z (aj_u2 is_149 52 5 0) G C := h
def zs_119 : aj_Z := (zs_118.1, zs_118.2.1, aj_u2 zs_118.2.2 52 0 (.ref 3))
theorem en_119 {J : aj_J} {pc : Nat} {L : aj_L} {st : List Value} {C : Nat × Nat} {I : aj_I} {G : aj_G} (h : J pc L st zs_119 I G C) : J pc L st (zs_118.1, zs_118.2.1, aj_u2 zs_118.2.2 52 0 (.ref 3)) I G C := h
def zs_120 : aj_Z := (zs_119.1, zs_119.2.1, aj_u2 zs_119.2.2 52 1 (.ref 17))
theorem en_120 {J : aj_J} {pc : Nat} {L : aj_L} {st : List Value} {C : Nat × Nat} {I : aj_I} {G : aj_G} (h : J pc L st zs_120 I G C) : J pc L st (zs_119.1, zs_119.2.1, aj_u2 zs_119.2.2 52 1 (.ref 17)) I G C := h
def zs_121 : aj_Z := (zs_120.1, zs_120.2.1, aj_u2 zs_120.2.2 2 3 (.ref 52))
theorem en_121 {J : aj_J} {pc : Nat} {L : aj_L} {st : List Value} {C : Nat × Nat} {I : aj_I} {G : aj_G} (h : J pc L st zs_121 I G C) : J pc L st (zs_120.1, zs_120.2.1, aj_u2 zs_120.2.2 2 3 (.ref 52)) I G C := h
def zs_122 : aj_Z := aj_nZ zs_121 (.inl 1)
def is_151 : aj_I := aj_nI zs_121 is_150
theorem en_122 {J : aj_J} {pc : Nat} {L : aj_L} {st : List Value} {C : Nat × Nat} (h : J pc L (.ref 54 :: st) zs_122 is_151 aj_G0 C) : J pc L (.ref (zs_121.1 + 2) :: st) (aj_nZ zs_121 (.inl 1)) (aj_nI zs_121 is_150) (aj_nG zs_121 aj_G0) C := by
  rw [aj_nG0, show zs_121.1 + 2 = 54 from rfl]
  exact h
def zs_123 : aj_Z := aj_nZ zs_122 (.inr (0, 3))
def is_152 : aj_I := aj_nI zs_122 is_151
theorem en_123 {J : aj_J} {pc : Nat} {L : aj_L} {st : List Value} {C : Nat × Nat} (h : J pc L (.ref 55 :: st) zs_123 is_152 aj_G0 C) : J pc L (.ref (zs_122.1 + 2) :: st) (aj_nZ zs_122 (.inr (0, 3))) (aj_nI zs_122 is_151) (aj_nG zs_122 aj_G0) C := by
  rw [aj_nG0, show zs_122.1 + 2 = 55 from rfl]
  exact h
def zs_124 : aj_Z := (zs_123.1, zs_123.2.1, aj_u2 zs_123.2.2 54 1 (.ref 55))
theorem en_124 {J : aj_J} {pc : Nat} {L : aj_L} {st : List Value} {C : Nat × Nat} {I : aj_I} {G : aj_G} (h : J pc L st zs_124 I G C) : J pc L st (zs_123.1, zs_123.2.1, aj_u2 zs_123.2.2 54 1 (.ref 55)) I G C := h
def zs_125 : aj_Z := aj_nZ zs_124 (.inr (0, 48))
def is_153 : aj_I := aj_nI zs_124 is_152
theorem en_125 {J : aj_J} {pc : Nat} {L : aj_L} {st : List Value} {C : Nat × Nat} (h : J pc L (.ref 56 :: st) zs_125 is_153 aj_G0 C) : J pc L (.ref (zs_124.1 + 2) :: st) (aj_nZ zs_124 (.inr (0, 48))) (aj_nI zs_124 is_152) (aj_nG zs_124 aj_G0) C := by
  rw [aj_nG0, show zs_124.1 + 2 = 56 from rfl]
  exact h
def zs_126 : aj_Z := (zs_125.1, zs_125.2.1, aj_u2 zs_125.2.2 54 2 (.ref 56))
theorem en_126 {J : aj_J} {pc : Nat} {L : aj_L} {st : List Value} {C : Nat × Nat} {I : aj_I} {G : aj_G} (h : J pc L st zs_126 I G C) : J pc L st (zs_125.1, zs_125.2.1, aj_u2 zs_125.2.2 54 2 (.ref 56)) I G C := h
def zs_127 : aj_Z := aj_nZ zs_126 (.inr (0, 48))
def is_154 : aj_I := aj_nI zs_126 is_153
theorem en_127 {J : aj_J} {pc : Nat} {L : aj_L} {st : List Value} {C : Nat × Nat} (h : J pc L (.ref 57 :: st) zs_127 is_154 aj_G0 C) : J pc L (.ref (zs_126.1 + 2) :: st) (aj_nZ zs_126 (.inr (0, 48))) (aj_nI zs_126 is_153) (aj_nG zs_126 aj_G0) C := by
  rw [aj_nG0, show zs_126.1 + 2 = 57 from rfl]
  exact h
def zs_128 : aj_Z := (zs_127.1, zs_127.2.1, aj_u2 zs_127.2.2 54 3 (.ref 57))
theorem en_128 {J : aj_J} {pc : Nat} {L : aj_L} {st : List Value} {C : Nat × Nat} {I : aj_I} {G : aj_G} (h : J pc L st zs_128 I G C) : J pc L st (zs_127.1, zs_127.2.1, aj_u2 zs_127.2.2 54 3 (.ref 57)) I G C := h
def zs_129 : aj_Z := aj_nZ zs_128 (.inr (1, 48))
def is_155 : aj_I := aj_nI zs_128 is_154
theorem en_129 {J : aj_J} {pc : Nat} {L : aj_L} {st : List Value} {C : Nat × Nat} (h : J pc L (.ref 58 :: st) zs_129 is_155 aj_G0 C) : J pc L (.ref (zs_128.1 + 2) :: st) (aj_nZ zs_128 (.inr (1, 48))) (aj_nI zs_128 is_154) (aj_nG zs_128 aj_G0) C := by
  rw [aj_nG0, show zs_128.1 + 2 = 58 from rfl]
  exact h
def zs_130 : aj_Z := (zs_129.1, zs_129.2.1, aj_u2 zs_129.2.2 54 4 (.ref 58))
theorem en_130 {J : aj_J} {pc : Nat} {L : aj_L} {st : List Value} {C : Nat × Nat} {I : aj_I} {G : aj_G} (h : J pc L st zs_130 I G C) : J pc L st (zs_129.1, zs_129.2.1, aj_u2 zs_129.2.2 54 4 (.ref 58)) I G C := h
def zs_131 : aj_Z := aj_nZ zs_130 (.inr (0, 1200))
def is_156 : aj_I := aj_nI zs_130 is_155
theorem en_131 {J : aj_J} {pc : Nat} {L : aj_L} {st : List Value} {C : Nat × Nat} (h : J pc L (.ref 59 :: st) zs_131 is_156 aj_G0 C) : J pc L (.ref (zs_130.1 + 2) :: st) (aj_nZ zs_130 (.inr (0, 1200))) (aj_nI zs_130 is_155) (aj_nG zs_130 aj_G0) C := by
  rw [aj_nG0, show zs_130.1 + 2 = 59 from rfl]
  exact h
def zs_132 : aj_Z := (zs_131.1, zs_131.2.1, aj_u2 zs_131.2.2 54 6 (.ref 59))
theorem en_132 {J : aj_J} {pc : Nat} {L : aj_L} {st : List Value} {C : Nat × Nat} {I : aj_I} {G : aj_G} (h : J pc L st zs_132 I G C) : J pc L st (zs_131.1, zs_131.2.1, aj_u2 zs_131.2.2 54 6 (.ref 59)) I G C := h
def is_157 : aj_I := aj_u2 is_156 54 7 (-1)
theorem ei_157 {J : aj_J} {pc : Nat} {L : aj_L} {st : List Value} {C : Nat × Nat} {Z : aj_Z} {G : aj_G} (h : J pc L st Z is_157 G C) : J pc L st Z (aj_u2 is_156 54 7 (-1)) G C := h
def zs_133 : aj_Z := aj_nZ zs_132 (.inr (0, 4))
def is_158 : aj_I := aj_nI zs_132 is_157
theorem en_133 {J : aj_J} {pc : Nat} {L : aj_L} {st : List Value} {C : Nat × Nat} (h : J pc L (.ref 60 :: st) zs_133 is_158 aj_G0 C) : J pc L (.ref (zs_132.1 + 2) :: st) (aj_nZ zs_132 (.inr (0, 4))) (aj_nI zs_132 is_157) (aj_nG zs_132 aj_G0) C := by
  rw [aj_nG0, show zs_132.1 + 2 = 60 from rfl]
  exact h
def zs_134 : aj_Z := (zs_133.1, zs_133.2.1, aj_u2 zs_133.2.2 54 9 (.ref 60))
theorem en_134 {J : aj_J} {pc : Nat} {L : aj_L} {st : List Value} {C : Nat × Nat} {I : aj_I} {G : aj_G} (h : J pc L st zs_134 I G C) : J pc L st (zs_133.1, zs_133.2.1, aj_u2 zs_133.2.2 54 9 (.ref 60)) I G C := h
def zs_135 : aj_Z := aj_nZ zs_134 (.inr (0, 4))
def is_159 : aj_I := aj_nI zs_134 is_158
theorem en_135 {J : aj_J} {pc : Nat} {L : aj_L} {st : List Value} {C : Nat × Nat} (h : J pc L (.ref 61 :: st) zs_135 is_159 aj_G0 C) : J pc L (.ref (zs_134.1 + 2) :: st) (aj_nZ zs_134 (.inr (0, 4))) (aj_nI zs_134 is_158) (aj_nG zs_134 aj_G0) C := by
  rw [aj_nG0, show zs_134.1 + 2 = 61 from rfl]
  exact h
def zs_136 : aj_Z := (zs_135.1, zs_135.2.1, aj_u2 zs_135.2.2 54 10 (.ref 61))
theorem en_136 {J : aj_J} {pc : Nat} {L : aj_L} {st : List Value} {C : Nat × Nat} {I : aj_I} {G : aj_G} (h : J pc L st zs_136 I G C) : J pc L st (zs_135.1, zs_135.2.1, aj_u2 zs_135.2.2 54 10 (.ref 61)) I G C := h
def zs_137 : aj_Z := aj_nZ zs_136 (.inr (0, 3))
def is_160 : aj_I := aj_nI zs_136 is_159
theorem en_137 {J : aj_J} {pc : Nat} {L : aj_L} {st : List Value} {C : Nat × Nat} (h : J pc L (.ref 62 :: st) zs_137 is_160 aj_G0 C) : J pc L (.ref (zs_136.1 + 2) :: st) (aj_nZ zs_136 (.inr (0, 3))) (aj_nI zs_136 is_159) (aj_nG zs_136 aj_G0) C := by
  rw [aj_nG0, show zs_136.1 + 2 = 62 from rfl]
  exact h
def zs_138 : aj_Z := (zs_137.1, zs_137.2.1, aj_u2 zs_137.2.2 54 16 (.ref 62))
theorem en_138 {J : aj_J} {pc : Nat} {L : aj_L} {st : List Value} {C : Nat × Nat} {I : aj_I} {G : aj_G} (h : J pc L st zs_138 I G C) : J pc L st (zs_137.1, zs_137.2.1, aj_u2 zs_137.2.2 54 16 (.ref 62)) I G C := h
def zs_139 : aj_Z := aj_nZ zs_138 (.inr (0, 12))
def is_161 : aj_I := aj_nI zs_138 is_160
theorem en_139 {J : aj_J} {pc : Nat} {L : aj_L} {st : List Value} {C : Nat × Nat} (h : J pc L (.ref 63 :: st) zs_139 is_161 aj_G0 C) : J pc L (.ref (zs_138.1 + 2) :: st) (aj_nZ zs_138 (.inr (0, 12))) (aj_nI zs_138 is_160) (aj_nG zs_138 aj_G0) C := by
  rw [aj_nG0, show zs_138.1 + 2 = 63 from rfl]
  exact h
def zs_140 : aj_Z := (zs_139.1, zs_139.2.1, aj_u2 zs_139.2.2 54 17 (.ref 63))
theorem en_140 {J : aj_J} {pc : Nat} {L : aj_L} {st : List Value} {C : Nat × Nat} {I : aj_I} {G : aj_G} (h : J pc L st zs_140 I G C) : J pc L st (zs_139.1, zs_139.2.1, aj_u2 zs_139.2.2 54 17 (.ref 63)) I G C := h
def zs_141 : aj_Z := aj_nZ zs_140 (.inr (0, 12))
def is_162 : aj_I := aj_nI zs_140 is_161
theorem en_141 {J : aj_J} {pc : Nat} {L : aj_L} {st : List Value} {C : Nat × Nat} (h : J pc L (.ref 64 :: st) zs_141 is_162 aj_G0 C) : J pc L (.ref (zs_140.1 + 2) :: st) (aj_nZ zs_140 (.inr (0, 12))) (aj_nI zs_140 is_161) (aj_nG zs_140 aj_G0) C := by
  rw [aj_nG0, show zs_140.1 + 2 = 64 from rfl]
  exact h
def zs_142 : aj_Z := (zs_141.1, zs_141.2.1, aj_u2 zs_141.2.2 54 18 (.ref 64))
theorem en_142 {J : aj_J} {pc : Nat} {L : aj_L} {st : List Value} {C : Nat × Nat} {I : aj_I} {G : aj_G} (h : J pc L st zs_142 I G C) : J pc L st (zs_141.1, zs_141.2.1, aj_u2 zs_141.2.2 54 18 (.ref 64)) I G C := h
def zs_143 : aj_Z := aj_nZ zs_142 (.inr (0, 12))
def is_163 : aj_I := aj_nI zs_142 is_162
theorem en_143 {J : aj_J} {pc : Nat} {L : aj_L} {st : List Value} {C : Nat × Nat} (h : J pc L (.ref 65 :: st) zs_143 is_163 aj_G0 C) : J pc L (.ref (zs_142.1 + 2) :: st) (aj_nZ zs_142 (.inr (0, 12))) (aj_nI zs_142 is_162) (aj_nG zs_142 aj_G0) C := by
  rw [aj_nG0, show zs_142.1 + 2 = 65 from rfl]
  exact h
def zs_144 : aj_Z := (zs_143.1, zs_143.2.1, aj_u2 zs_143.2.2 54 19 (.ref 65))
theorem en_144 {J : aj_J} {pc : Nat} {L : aj_L} {st : List Value} {C : Nat × Nat} {I : aj_I} {G : aj_G} (h : J pc L st zs_144 I G C) : J pc L st (zs_143.1, zs_143.2.1, aj_u2 zs_143.2.2 54 19 (.ref 65)) I G C := h
def zs_145 : aj_Z := aj_nZ zs_144 (.inr (3, 3))
def is_164 : aj_I := aj_nI zs_144 is_163
theorem en_145 {J : aj_J} {pc : Nat} {L : aj_L} {st : List Value} {C : Nat × Nat} (h : J pc L (.ref 66 :: st) zs_145 is_164 aj_G0 C) : J pc L (.ref (zs_144.1 + 2) :: st) (aj_nZ zs_144 (.inr (3, 3))) (aj_nI zs_144 is_163) (aj_nG zs_144 aj_G0) C := by
  rw [aj_nG0, show zs_144.1 + 2 = 66 from rfl]
  exact h
def zs_146 : aj_Z := (zs_145.1, zs_145.2.1, aj_u2 zs_145.2.2 54 20 (.ref 66))
theorem en_146 {J : aj_J} {pc : Nat} {L : aj_L} {st : List Value} {C : Nat × Nat} {I : aj_I} {G : aj_G} (h : J pc L st zs_146 I G C) : J pc L st (zs_145.1, zs_145.2.1, aj_u2 zs_145.2.2 54 20 (.ref 66)) I G C := h
def zs_147 : aj_Z := aj_nZ zs_146 (.inr (0, 3))
def is_165 : aj_I := aj_nI zs_146 is_164
theorem en_147 {J : aj_J} {pc : Nat} {L : aj_L} {st : List Value} {C : Nat × Nat} (h : J pc L (.ref 67 :: st) zs_147 is_165 aj_G0 C) : J pc L (.ref (zs_146.1 + 2) :: st) (aj_nZ zs_146 (.inr (0, 3))) (aj_nI zs_146 is_164) (aj_nG zs_146 aj_G0) C := by
  rw [aj_nG0, show zs_146.1 + 2 = 67 from rfl]
  exact h
def zs_148 : aj_Z := (zs_147.1, zs_147.2.1, aj_u2 zs_147.2.2 54 24 (.ref 67))
theorem en_148 {J : aj_J} {pc : Nat} {L : aj_L} {st : List Value} {C : Nat × Nat} {I : aj_I} {G : aj_G} (h : J pc L st zs_148 I G C) : J pc L st (zs_147.1, zs_147.2.1, aj_u2 zs_147.2.2 54 24 (.ref 67)) I G C := h
def zs_149 : aj_Z := aj_nZ zs_148 (.inr (0, 48))
def is_166 : aj_I := aj_nI zs_148 is_165
theorem en_149 {J : aj_J} {pc : Nat} {L : aj_L} {st : List Value} {C : Nat × Nat} (h : J pc L (.ref 68 :: st) zs_149 is_166 aj_G0 C) : J pc L (.ref (zs_148.1 + 2) :: st) (aj_nZ zs_148 (.inr (0, 48))) (aj_nI zs_148 is_165) (aj_nG zs_148 aj_G0) C := by
  rw [aj_nG0, show zs_148.1 + 2 = 68 from rfl]
  exact h
def zs_150 : aj_Z := (zs_149.1, zs_149.2.1, aj_u2 zs_149.2.2 54 25 (.ref 68))
theorem en_150 {J : aj_J} {pc : Nat} {L : aj_L} {st : List Value} {C : Nat × Nat} {I : aj_I} {G : aj_G} (h : J pc L st zs_150 I G C) : J pc L st (zs_149.1, zs_149.2.1, aj_u2 zs_149.2.2 54 25 (.ref 68)) I G C := h
def zs_151 : aj_Z := aj_nZ zs_150 (.inr (0, 48))
def is_167 : aj_I := aj_nI zs_150 is_166
theorem en_151 {J : aj_J} {pc : Nat} {L : aj_L} {st : List Value} {C : Nat × Nat} (h : J pc L (.ref 69 :: st) zs_151 is_167 aj_G0 C) : J pc L (.ref (zs_150.1 + 2) :: st) (aj_nZ zs_150 (.inr (0, 48))) (aj_nI zs_150 is_166) (aj_nG zs_150 aj_G0) C := by
  rw [aj_nG0, show zs_150.1 + 2 = 69 from rfl]
  exact h
def zs_152 : aj_Z := (zs_151.1, zs_151.2.1, aj_u2 zs_151.2.2 54 26 (.ref 69))
theorem en_152 {J : aj_J} {pc : Nat} {L : aj_L} {st : List Value} {C : Nat × Nat} {I : aj_I} {G : aj_G} (h : J pc L st zs_152 I G C) : J pc L st (zs_151.1, zs_151.2.1, aj_u2 zs_151.2.2 54 26 (.ref 69)) I G C := h
def zs_153 : aj_Z := aj_nZ zs_152 (.inr (1, 48))
def is_168 : aj_I := aj_nI zs_152 is_167
theorem en_153 {J : aj_J} {pc : Nat} {L : aj_L} {st : List Value} {C : Nat × Nat} (h : J pc L (.ref 70 :: st) zs_153 is_168 aj_G0 C) : J pc L (.ref (zs_152.1 + 2) :: st) (aj_nZ zs_152 (.inr (1, 48))) (aj_nI zs_152 is_167) (aj_nG zs_152 aj_G0) C := by
  rw [aj_nG0, show zs_152.1 + 2 = 70 from rfl]
  exact h
def zs_154 : aj_Z := (zs_153.1, zs_153.2.1, aj_u2 zs_153.2.2 54 27 (.ref 70))
theorem en_154 {J : aj_J} {pc : Nat} {L : aj_L} {st : List Value} {C : Nat × Nat} {I : aj_I} {G : aj_G} (h : J pc L st zs_154 I G C) : J pc L st (zs_153.1, zs_153.2.1, aj_u2 zs_153.2.2 54 27 (.ref 70)) I G C := h
