/-! read: the reference, numbers, a box's head -/
theorem mF.cl {I : aj_I} {len : Nat} {b : Nat → Nat} (h : mF I len b) : fC (fun o j => if o = 17 then nI len else nI (b j)) 17 18 len b := by
  refine ⟨if_pos rfl, h.2.1, fun j hj => ⟨(h.2.2 j hj).1, ?_⟩⟩
  show (if (18 : Nat) = 17 then nI len else nI (b j)) &&& 255 = nI (b j)
  rw [if_neg (by decide), fn_and255, Nat.mod_eq_of_lt (h.2.2 j hj).1]
theorem mF.same {I I' : aj_I} {len : Nat} {b : Nat → Nat} (h : mF I len b) (h5 : I' 54 5 = I 54 5) (h59 : I' 59 = I 59) : mF I' len b := by
  unfold mF at h ⊢
  rw [h5, h59]
  exact h
theorem oN_neg {x : Option Nat} (h : ∀ p, x = some p → p ≤ 1200) : oN x < 0 ↔ x = none := by
  cases x with
  | none => exact ⟨fun _ => rfl, fun _ => (by decide : (-1 : Int32) < 0)⟩
  | some p =>
    refine ⟨fun q => ?_, fun q => by cases q⟩
    have hp := h p rfl
    exact absurd q (nI_pos (by omega))
section MA
variable {Z : aj_Z} {I : aj_I} {G : aj_G} {Q : aj_Q} {len : Nat} {b : Nat → Nat} {d mc ms : Nat}
theorem M_numberAt (hz : zAll Z) (hf : mF I len b) {p w : Nat} (hpw : p + w ≤ len) (hw : w ≤ 8) (hQ : Q (some (.long (lN (fn_nb b p w)))) Z I G) : aj_T (d + 1) mc ms 41 [.ref 54, .int (nI p), .int (nI w)] Z I G Q := by
  have hn := hf.2.1
  refine t_41 fun J hJ => b_41_0 hJ ?_
  have key : ∀ (k i : Nat) (w4 : Option Value), k + i = w → J 5 [some (.ref 54), some (.int (nI p)), some (.int (nI w)), some (.long (lN (fn_nb b p i))), w4, some (.int (nI i))] [] Z I G (0, 0) := by
    intro k
    induction k with
    | zero =>
      intro i w4 hi
      have hi : i = w := by omega
      subst hi
      exact b_41_5 hJ (fun _ => hQ) (zk_54 hz) (zr_54_6 hz) (zk_59 hz) (fun h => absurd (nI_le (Nat.le_refl i) (by omega)) h) (fun h => absurd (nI_le (Nat.le_refl i) (by omega)) h)
    | succ k ih =>
      intro i w4 hi
      refine b_41_5 hJ (fun h => absurd h (nI_ge (by omega) (by omega))) (zk_54 hz) (zr_54_6 hz) (zk_59 hz) (fun _ => ?_) (fun _ => ?_)
      · rw [nI_add]; exact vp_in_nI (by omega) (by decide)
      · rw [nI_add, nI_clamp (by omega), (hf.2.2 (p + i) (by omega)).2, nI_1]
        have hlt := fn_nb_lt (b := b) (p := p) i (fun j hj => (hf.2.2 (p + j) (by omega)).1)
        have hpow : 256 ^ i ≤ 256 ^ 7 := Nat.pow_le_pow_right (by decide) (by omega)
        have e7 : (256 : Nat) ^ 7 = 2 ^ 56 := by decide
        rw [fn_step (by omega) (hf.2.2 (p + i) (by omega)).1]
        exact ih (i + 1) none (by omega)
  exact key w 0 none (by omega)
theorem M_tell (hz : zAll Z) {x y : Int32} (hQ : Q (some (.int x)) Z (aj_u2 I 54 7 y) G) : aj_T (d + 1) mc ms 48 [.ref 54, .int x, .int y] Z I G Q :=
  t_48 fun J hJ => b_48_0 hJ (zk_54 hz) hQ
theorem M_tableOf {ty : Int32} (h0 : r_tab ty = none → Q (some (.int (-1))) Z I G) (h1 : ∀ k w, r_tab ty = some (k, w) → Q (some (.int (nI k))) Z I G) : aj_T (d + 1) mc ms 43 [.int ty] Z I G Q := by
  refine t_43 fun J hJ => b_43_0 hJ (fun _ _ _ a => h1 3 false (by rw [a]; rfl)) (fun a1 a2 a3 a4 a5 => h0 ?_) (fun _ _ _ _ a => h1 3 true (by rw [a]; rfl)) (fun _ _ a => h1 2 false (by rw [a]; rfl)) (fun _ a => h1 1 false (by rw [a]; rfl)) (fun a => h1 0 false (by rw [a]; rfl))
  unfold r_tab
  rw [if_neg a5, if_neg a4, if_neg a2, if_neg a3, if_neg a1]
/-- nothing of the reference has changed but the head that it read -/
def mHd (I I' : aj_I) : Prop := (∀ a, a ≠ 54 → I' a = I a) ∧ ∀ j, j ≠ 21 → j ≠ 22 → j ≠ 23 → I' 54 j = I 54 j
theorem M_readHead (hz : zAll Z) (hf : mF I len b) {p e : Nat} (hpe : p ≤ e) (hel : e ≤ len) (h0 : ∀ I' : aj_I, r_head b p (e - p) = none → mHd I I' → Q (some (.int 0)) Z I' G)
    (h1 : ∀ (hd sz : Nat) (I' : aj_I), r_head b p (e - p) = some (hd, sz) → mHd I I' → I' 54 21 = nI (fn_nb b (p + 4) 4) → I' 54 22 = nI (p + hd) → I' 54 23 = nI (p + sz) → Q (some (.int 1)) Z I' G) : aj_T (d + 2) mc ms 42 [.ref 54, .int (nI p), .int (nI e)] Z I G Q := by
  have hle := hf.2.1
  have er : nI e - nI p = nI (e - p) := pk_sub hpe
  refine t_42 fun J hJ => b_42_0 hJ (zk_54 hz) (fun q => ?_) (fun q => h0 I ?_ ⟨fun _ _ => rfl, fun _ _ _ _ => rfl⟩)
  · rw [er] at q
    have q := (nI_leI (a := 8) (by decide) (by omega)).mp q
    have b4 := hf.cl.nb4 (p := p) (by omega)
    -- behind the size
    have tail : ∀ (hd n : Nat) (I2 : aj_I) (w4 : Option Value), hd = 8 ∨ hd = 16 → n < 2 ^ 64 → (n < hd ∨ e - p < n → r_head b p (e - p) = none) → (¬ (n < hd ∨ e - p < n) → r_head b p (e - p) = some (hd, n)) → mHd I I2 → I2 54 21 = nI (fn_nb b (p + 4) 4) → I2 54 22 = nI (p + hd) → J 73 [some (.ref 54), some (.int (nI p)), some (.int (nI e)), some (.long (lN n)), w4] [] Z I2 G (0, 0) := by
      intro hd n I2 w4 hhd hn64 hno hyes hm h21 h22
      have eh : Int32.toInt64 (I2 54 22 - nI p) = lN hd := by rw [h22, pk_sub (by omega), nI_l (by omega)]; congr 1; omega
      have ee : Int32.toInt64 (nI e - nI p) = lN (e - p) := by rw [er, nI_l (by omega)]
      rcases Nat.lt_or_ge n (2 ^ 63) with hn | hn
      · refine b_42_73 hJ (zk_54 hz) (fun z => h0 I2 (hno (Or.inl ?_)) hm) (fun z1 z2 => ?_) (fun z1 z2 => h0 I2 (hno (Or.inr ?_)) hm)
        · rw [eh, l_lt hn (by omega)] at z; exact z
        · rw [eh, l_lt hn (by omega)] at z1
          rw [ee, l_le hn (by omega)] at z2
          rw [lN_i, nI_add]
          refine h1 hd n _ (hyes (by omega)) ⟨fun a ha => by rw [aj_u2_ne ha]; exact hm.1 a ha, fun j j1 j2 j3 => by rw [aj_u2_n2 j3]; exact hm.2 j j1 j2 j3⟩ (by rw [aj_u2_n2 (by decide)]; exact h21) (by rw [aj_u2_n2 (by decide)]; exact h22) aj_u2_at
        · rw [ee, l_le hn (by omega)] at z2; omega
      · have hneg := l_neg hn hn64
        have hlt : lN n < Int32.toInt64 (I2 54 22 - nI p) := by
          rw [eh]
          rw [Int64.lt_iff_toInt_lt] at hneg ⊢
          rw [l_toInt (show hd < 2 ^ 63 by omega)]
          have : (0 : Int64).toInt = 0 := rfl
          omega
        exact b_42_73 hJ (zk_54 hz) (fun z => h0 I2 (hno (Or.inr (by omega))) hm) (fun z => absurd hlt z) (fun z => absurd hlt z)
    refine M_numberAt (w := 4) hz hf (by omega) (by decide) (b_42_16 hJ (zk_54 hz) ?_)
    rw [show nI p + 4 = nI (p + 4) from nI_add p 4]
    refine M_numberAt (w := 4) hz hf (by omega) (by decide) ?_
    have hm8 : mHd I (aj_u2 (aj_u2 I 54 21 (nI (fn_nb b (p + 4) 4))) 54 22 (nI (p + 8))) := ⟨fun a ha => by rw [aj_u2_ne ha, aj_u2_ne ha], fun j j1 j2 j3 => by rw [aj_u2_n2 j2, aj_u2_n2 j1]⟩
    refine b_42_26 hJ (zk_54 hz) (zk_54 hz) (fun z => ?_) (fun z y => ?_) (fun z y => ?_)
    · rw [lN_i, show nI p + 8 = nI (p + 8) from nI_add p 8]
      have z : fn_nb b p 4 ≠ 1 := fun y => z (by rw [y]; rfl)
      refine tail 8 _ _ _ (Or.inl rfl) (by omega) (fun y => ?_) (fun y => ?_) hm8 (by rw [aj_u2_n2 (by decide), aj_u2_at]) aj_u2_at
      · unfold r_head; rw [if_neg (by omega), if_neg z, if_pos y]
      · unfold r_head; rw [if_neg (by omega), if_neg z, if_neg y]
    · rw [show (1 : Int64) = lN 1 from rfl, l_eq (by omega) (by decide)] at z
      rw [er] at y
      have y := (nI_leI (a := 16) (by decide) (by omega)).mp y
      rw [lN_i, show nI p + 8 = nI (p + 8) from nI_add p 8]
      refine M_numberAt (w := 8) hz (hf.same (hm8.2 5 (by decide) (by decide) (by decide)) (hm8.1 59 (by decide))) (by omega) (by decide) (b_42_64 hJ (zk_54 hz) ?_)
      rw [show nI p + 16 = nI (p + 16) from nI_add p 16]
      refine tail 16 _ _ _ (Or.inr rfl) (hf.cl.nb8 (by omega) (Or.inr rfl)) (fun x => ?_) (fun x => ?_) ⟨fun a ha => by rw [aj_u2_ne ha]; exact hm8.1 a ha, fun j j1 j2 j3 => by rw [aj_u2_n2 j2]; exact hm8.2 j j1 j2 j3⟩ (by rw [aj_u2_n2 (by decide), aj_u2_n2 (by decide), aj_u2_at]) aj_u2_at
      · unfold r_head; rw [if_neg (by omega), if_pos z, if_neg (by omega), if_pos x]
      · unfold r_head; rw [if_neg (by omega), if_pos z, if_neg (by omega), if_neg x]
    · rw [show (1 : Int64) = lN 1 from rfl, l_eq (by omega) (by decide)] at z
      rw [er] at y
      have y : ¬ 16 ≤ e - p := fun x => y (nI_le (a := 16) x (by omega))
      rw [lN_i, show nI p + 8 = nI (p + 8) from nI_add p 8]
      refine h0 _ ?_ hm8
      unfold r_head; rw [if_neg (by omega), if_pos z, if_pos (by omega)]
  · rw [er] at q
    have q : ¬ 8 ≤ e - p := fun x => q (nI_le (a := 8) x (by omega))
    unfold r_head; rw [if_pos (by omega)]
end MA
