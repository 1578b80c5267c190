/-! read: a box's head; the small steps of the class -/
def r_head (b : Nat → Nat) (p room : Nat) : Option (Nat × Nat) :=
  if room < 8 then none else
  if fn_nb b p 4 = 1 then (if room < 16 then none else if fn_nb b (p + 8) 8 < 16 ∨ room < fn_nb b (p + 8) 8 then none else some (16, fn_nb b (p + 8) 8))
  else if fn_nb b p 4 < 8 ∨ room < fn_nb b p 4 then none else some (8, fn_nb b p 4)
theorem r_head_b {b : Nat → Nat} {p room hd sz : Nat} (h : r_head b p room = some (hd, sz)) : 8 ≤ hd ∧ hd ≤ sz ∧ sz ≤ room ∧ (hd = 8 ∨ hd = 16) := by
  unfold r_head at h
  split at h
  · cases h
  · split at h
    · split at h
      · cases h
      · split at h
        · cases h
        · cases h; omega
    · split at h
      · cases h
      · cases h; omega
/-- a place, or none -/
def oN : Option Nat → Int32
  | none => -1
  | some p => nI p
theorem oN_none {x : Option Nat} (h : ∀ p, x = some p → p ≤ 1200) : oN x = -1 ↔ x = none := by
  cases x with
  | none => exact ⟨fun _ => rfl, fun _ => rfl⟩
  | some p =>
    refine ⟨fun q => ?_, fun q => by cases q⟩
    have hp := h p rfl
    have q : nI p = -1 := q
    have h1 : (nI p).toInt = (-1 : Int32).toInt := by rw [q]
    rw [nI_toInt (by omega)] at h1
    have h2 : (-1 : Int32).toInt = -1 := rfl
    omega
section RH
variable {Z : aj_Z} {I : aj_I} {G : aj_G} {Q : aj_Q} {len : Nat} {b : Nat → Nat} {d mc ms : Nat}
theorem T_forgetFault (hz : zAll Z) (hQ : Q none Z (aj_u2 (aj_u2 I 20 0 0) 20 1 (-1)) G) : aj_T (d + 1) mc ms 89 [.ref 20] Z I G Q :=
  t_89 fun J hJ => b_89_0 hJ (zk_20 hz) hQ
theorem T_tell (hz : zAll Z) {x y : Int32} (hQ : Q (some (.int 0)) Z (aj_u2 (aj_u2 I 20 0 x) 20 1 y) G) : aj_T (d + 1) mc ms 90 [.ref 20, .int x, .int y] Z I G Q :=
  t_90 fun J hJ => b_90_0 hJ (zk_20 hz) hQ
theorem T_readHead (hz : zAll Z) (hf : fC I 17 18 len b) {p room : Nat} (hp : I 21 12 = nI p) (hr : p + room ≤ len) (h0 : r_head b p room = none → Q (some (.int 0)) Z I G)
    (h1 : ∀ hd sz, r_head b p room = some (hd, sz) → Q (some (.int 1)) Z (aj_u2 (aj_u2 (aj_u2 I 21 13 (nI (fn_nb b (p + 4) 4))) 21 14 (nI (p + hd))) 21 15 (nI (p + sz))) G) : aj_T (d + 2) mc ms 95 [.ref 21, .int (nI room)] Z I G Q := by
  have hle := hf.2.1
  refine t_95 fun J hJ => b_95_0 hJ (zk_21 hz) (zr_21_0 hz) (zk_17 hz) (fun q => ?_) (fun q => h0 ?_)
  · have q := (nI_leI (a := 8) (by decide) (by omega)).mp q
    have b4 := hf.nb4 (p := p) (by omega)
    rw [hp]
    -- behind the size
    have tail : ∀ (hd n : Nat) (w3 : Option Value), hd = 8 ∨ hd = 16 → n < 2 ^ 64 → (n < hd ∨ room < n → r_head b p room = none) → (¬ (n < hd ∨ room < n) → r_head b p room = some (hd, n)) → J 68 [some (.ref 21), some (.int (nI room)), some (.long (lN n)), w3, some (.int (nI hd))] [] Z I G (0, 0) := by
      intro hd n w3 hhd hn64 hno hyes
      rcases Nat.lt_or_ge n (2 ^ 63) with hn | hn
      · refine b_95_68 hJ (fun z => h0 (hno (Or.inl ?_))) (zk_21 hz) (zr_21_0 hz) (zk_17 hz) (fun z1 z2 => ?_) (fun z1 z2 => h0 (hno (Or.inr ?_)))
        · rw [nI_l (by omega), l_lt hn (by omega)] at z; exact z
        · rw [nI_l (by omega), l_lt hn (by omega)] at z1
          rw [nI_l (by omega), l_le hn (by omega)] at z2
          rw [hp, show nI p + 4 = nI (p + 4) from nI_add p 4]
          refine T_numF (v := 4) hz hf (by omega) (by decide) (b_95_100 hJ (zk_21 hz) (zk_21 hz) ?_)
          have := h1 hd n (hyes (by omega))
          rw [lN_i, lN_i]
          rw [aj_u2_n2 (show (12 : Nat) ≠ 14 by decide), aj_u2_n2 (show (12 : Nat) ≠ 13 by decide), hp, nI_add, nI_add]
          exact this
        · rw [nI_l (by omega), l_le hn (by omega)] at z2; omega
      · have hneg := l_neg hn hn64
        have hlt : lN n < Int32.toInt64 (nI hd) := by
          rw [nI_l (by omega)]
          rw [Int64.lt_iff_toInt_lt] at hneg ⊢
          rw [l_toInt (show hd < 2 ^ 63 by omega)]
          have : (0 : Int64).toInt = 0 := rfl
          omega
        exact b_95_68 hJ (fun z => h0 (hno (Or.inr (by omega)))) (zk_21 hz) (zr_21_0 hz) (zk_17 hz) (fun z => absurd hlt z) (fun z => absurd hlt z)
    refine T_numF (v := 4) hz hf (by omega) (by decide) (b_95_20 hJ (fun z => ?_) (fun z => ?_))
    · have z : fn_nb b p 4 ≠ 1 := fun y => z (by rw [y]; rfl)
      refine b_95_34 hJ (fun _ _ => ?_) (zk_21 hz) (zr_21_0 hz) (zk_17 hz) (fun _ y => absurd y (by decide)) (fun y => absurd (nI_le (a := 8) q (by omega)) y)
      refine tail 8 _ _ (Or.inl rfl) (by omega) (fun y => ?_) (fun y => ?_)
      · unfold r_head; rw [if_neg (by omega), if_neg z, if_pos y]
      · unfold r_head; rw [if_neg (by omega), if_neg z, if_neg y]
    · rw [show (1 : Int64) = lN 1 from rfl, l_eq (by omega) (by decide)] at z
      refine b_95_34 hJ (fun _ y => absurd rfl y) (zk_21 hz) (zr_21_0 hz) (zk_17 hz) (fun y _ => ?_) (fun y => h0 ?_)
      · have y := (nI_leI (a := 16) (by decide) (by omega)).mp y
        rw [hp, show nI p + 8 = nI (p + 8) from nI_add p 8]
        refine T_numF (v := 8) hz hf (by omega) (by decide) (b_95_67 hJ (tail 16 _ _ (Or.inr rfl) (hf.nb8 (by omega) (Or.inr rfl)) (fun x => ?_) (fun x => ?_)))
        · unfold r_head; rw [if_neg (by omega), if_pos z, if_neg (by omega), if_pos x]
        · unfold r_head; rw [if_neg (by omega), if_pos z, if_neg (by omega), if_neg x]
      · have y : ¬ 16 ≤ room := fun x => y (nI_le (a := 16) x (by omega))
        unfold r_head; rw [if_neg (by omega), if_pos z, if_pos (by omega)]
  · have q : ¬ 8 ≤ room := fun x => q (nI_le (a := 8) x (by omega))
    unfold r_head; rw [if_pos (by omega)]
theorem T_hasStbl {o : Nat} (ho : zTB Z o) {x : Option Nat} (hx : ∀ p, x = some p → p ≤ 1200) (h : I o 5 = oN x) (h1 : x = none → Q (some (.int 0)) Z I G) (h2 : x ≠ none → Q (some (.int 1)) Z I G) : aj_T (d + 1) mc ms 140 [.ref o] Z I G Q :=
  t_140 fun J hJ => b_140_0 hJ ho.1 (fun q => h1 ((oN_none hx).mp (by rw [← h]; exact q))) (fun q => h2 (fun z => q (by rw [h, z]; rfl)))
theorem T_takeStbl {o : Nat} (ho : zTB Z o) {x : Option Nat} (hx : ∀ p, x = some p → p ≤ 1200) (h : I o 5 = oN x) {v : Int32} (h1 : x = none → Q (some (.int 1)) Z (aj_u2 I o 5 v) G) (h2 : x ≠ none → Q (some (.int 0)) Z I G) : aj_T (d + 1) mc ms 141 [.ref o, .int v] Z I G Q :=
  t_141 fun J hJ => b_141_0 hJ ho.1 (fun q => h1 ((oN_none hx).mp (by rw [← h]; exact q))) (fun q => h2 (fun z => q (by rw [h, z]; rfl)))
theorem T_isFound {o : Nat} (ho : zTb Z o) {x : Option Nat} (hx : ∀ p, x = some p → p ≤ 1200) (h : I o 1 = oN x) (h1 : x = none → Q (some (.int 0)) Z I G) (h2 : x ≠ none → Q (some (.int 1)) Z I G) : aj_T (d + 1) mc ms 117 [.ref o] Z I G Q :=
  t_117 fun J hJ => b_117_0 hJ ho.1 (fun q => h1 ((oN_none hx).mp (by rw [← h]; exact q))) (fun q => h2 (fun z => q (by rw [h, z]; rfl)))
theorem T_forgetTB {o : Nat} (ho : zTB Z o) (hQ : ∀ I' : aj_I, (∀ a, a ≠ o → (∀ k, k < 4 → a ≠ o + 5 + k) → I' a = I a) → I' o 5 = -1 → (∀ k, k < 4 → I' (o + 5 + k) 1 = -1) → Q none Z I' G) : aj_T (d + 2) mc ms 139 [.ref o] Z I G Q := by
  refine t_139 fun J hJ => b_139_0 hJ ho.1 ?_
  have key : ∀ (m i : Nat) (I1 : aj_I), m + i = 4 → (∀ a, a ≠ o → (∀ k, k < 4 → a ≠ o + 5 + k) → I1 a = I a) → I1 o 5 = -1 → (∀ k, k < i → I1 (o + 5 + k) 1 = -1) → J 12 [some (.ref o), some (.int (nI i))] [] Z I1 G (0, 0) := by
    intro m
    induction m with
    | zero =>
      intro i I1 hi hfr h5 hall
      have hst : (4 : Int32) ≤ nI i := nI_le (a := 4) (by omega) (by omega)
      exact b_139_12 (q1 := o + 5 + 0) hJ (fun _ => hQ I1 hfr h5 (fun k hk => hall k (by omega))) ho.1 ho.2.1 ho.2.2.2.2.2.1 (fun z => absurd hst z) (fun z => absurd hst z) (ho.2.2.2.2.2.2.2.2.2 0 (by decide)).2.1 (fun z => absurd hst z)
    | succ m ih =>
      intro i I1 hi hfr h5 hall
      have g := ho.2.2.2.2.2.2.2.2.2 i (by omega)
      refine b_139_12 hJ (fun z => absurd z (nI_ge (b := 4) (by omega) (by decide))) ho.1 ho.2.1 ho.2.2.2.2.2.1 (fun _ => vp_in_nI (by omega) (by decide)) (fun _ => by rw [nI_clamp (by omega)]; exact g.1) g.2.1 (fun _ => t_116 fun J2 hJ2 => b_116_0 hJ2 g.2.1 (b_139_26 hJ ?_))
      rw [nI_1]
      refine ih (i + 1) _ (by omega) (fun a a1 a2 => by rw [aj_u2_ne (a2 i (by omega))]; exact hfr a a1 a2) (by rw [aj_u2_ne (by omega)]; exact h5) (fun k hk => ?_)
      by_cases q : k = i
      · rw [q, aj_u2_at]
      · rw [aj_u2_ne (by omega)]; exact hall k (by omega)
  exact key 4 0 _ rfl (fun a a1 _ => by rw [aj_u2_ne a1, aj_u2_ne a1]) (by rw [aj_u2_n2 (by decide), aj_u2_at]) (fun k hk => absurd hk (Nat.not_lt_zero _))
theorem T_hasAllTables {o : Nat} (ho : zTB Z o) {x : Nat → Option Nat} (hx : ∀ k, k < 4 → ∀ p, x k = some p → p ≤ 1200) (h : ∀ k, k < 4 → I (o + 5 + k) 1 = oN (x k)) (h1 : (∀ k, k < 4 → x k ≠ none) → Q (some (.int 1)) Z I G) (h2 : ¬ (∀ k, k < 4 → x k ≠ none) → Q (some (.int 0)) Z I G) : aj_T (d + 2) mc ms 143 [.ref o] Z I G Q := by
  refine t_143 fun J hJ => b_143_0 hJ ?_
  have key : ∀ (m i : Nat), m + i = 4 → (∀ k, k < i → x k ≠ none) → J 2 [some (.ref o), some (.int (nI i))] [] Z I G (0, 0) := by
    intro m
    induction m with
    | zero =>
      intro i hi hall
      have hst : (4 : Int32) ≤ nI i := nI_le (a := 4) (by omega) (by omega)
      exact b_143_2 (q1 := o + 5 + 0) hJ (fun _ => h1 (fun k hk => hall k (by omega))) ho.1 ho.2.1 ho.2.2.2.2.2.1 (fun z => absurd hst z) (fun z => absurd hst z) (ho.2.2.2.2.2.2.2.2.2 0 (by decide)).2.1 (fun z => absurd hst z)
    | succ m ih =>
      intro i hi hall
      have g := ho.2.2.2.2.2.2.2.2.2 i (by omega)
      refine b_143_2 hJ (fun z => absurd z (nI_ge (b := 4) (by omega) (by decide))) ho.1 ho.2.1 ho.2.2.2.2.2.1 (fun _ => vp_in_nI (by omega) (by decide)) (fun _ => by rw [nI_clamp (by omega)]; exact g.1) g.2.1 (fun _ => T_isFound g.2 (hx i (by omega)) (h i (by omega)) (fun q => b_143_16 hJ (fun z => absurd rfl z) (fun _ => h2 (fun z => z i (by omega) q))) (fun q => b_143_16 hJ (fun _ => ?_) (fun z => absurd z (by decide))))
      rw [nI_1]
      refine ih (i + 1) (by omega) (fun k hk => ?_)
      by_cases z : k = i
      · rw [z]; exact q
      · exact hall k (by omega)
  exact key 4 0 rfl (fun k hk => absurd hk (Nat.not_lt_zero _))
end RH
