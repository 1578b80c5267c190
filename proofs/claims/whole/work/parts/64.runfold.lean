/-! read: the class writes a track's samples out -/
theorem tkC.same {I I' : aj_I} {o : Nat} {w : Bool} {bx ct st : Nat → Nat} {len : Nat} (h : tkC I o w bx ct st len) (hI : ∀ k, k < 4 → I' (o + 5 + k) = I (o + 5 + k)) : tkC I' o w bx ct st len := by
  intro k hk
  have h1 := h k hk
  unfold tbC at h1 ⊢
  rw [hI k hk]
  exact h1
theorem s_pc_at {F P : Nat → Nat} {x e : Nat} (h1 : F e ≤ x) : ∀ d, (∀ i, e < i → i < e + 1 + d → x < F i) → s_pc F P x (e + 1 + d) = P e
  | 0, _ => if_pos h1
  | d + 1, h2 => by
    show (if F (e + 1 + d) ≤ x then P (e + 1 + d) else s_pc F P x (e + 1 + d)) = _
    have := h2 (e + 1 + d) (by omega) (by omega)
    rw [if_neg (by omega)]
    exact s_pc_at h1 d (fun i a1 a2 => h2 i a1 (by omega))
theorem s_riseU {F : Nat → Nat} {M e x : Nat} (hr : ∀ e, e + 1 < M → F e < F (e + 1)) (hx : e + 1 < M → x < F (e + 1)) : ∀ i, e < i → i < M → x < F i := by
  have key : ∀ d, e + 1 + d < M → x < F (e + 1 + d) := by
    intro d
    induction d with
    | zero => intro h; exact hx h
    | succ d ih =>
      intro h
      have h1 := ih (by omega)
      have h2 := hr (e + 1 + d) (by omega)
      exact Nat.lt_trans h1 h2
  intro i h1 h2
  have := key (i - (e + 1)) (by omega)
  rw [show e + 1 + (i - (e + 1)) = i by omega] at this
  exact this
section RC1
variable {Z : aj_Z} {I : aj_I} {G : aj_G} {Q : aj_Q} {len : Nat} {b : Nat → Nat} {o : Nat} {w : Bool} {bx ct st : Nat → Nat} {d mc ms : Nat}
theorem T_unfoldDurations (hz : zAll Z) (ho : zTB Z o) (ho2 : 18 < o) (hf : fC I 17 18 len b) (ht : tkC I o w bx ct st len) (hr : s_ok b w ct st) (ha : s_agr b w ct) (hn : I o 4 = nI (s_n b ct)) (hQ : ∀ I' : aj_I, (∀ a, a ≠ o + 2 → I' a = I a) → (∀ j, j < s_n b ct → I' (o + 2) j = nI (s_D b w ct j)) → Q none Z I' G) : aj_T (d + 4) mc ms 151 [.ref o] Z I G Q := by
  have g0 := ho.2.2.2.2.2.2.2.2.2 0 (by decide)
  have t0 := ht 0 (by decide)
  have r0 := hr 0 (by decide)
  have hle := r_lst_le hf t0.2 r0.1
  have hn16 := ha.2.1
  have hsum := ha.1
  refine t_151 fun J hJ => b_151_0 hJ ho.1 ho.2.1 ho.2.2.2.2.2.1 (vp_in_nI (n := 0) (by decide) (by decide)) g0.1 g0.2.1 (T_listed hz g0.2 hf t0.1 t0.2 r0.1 (b_151_11 hJ ?_))
  have key : ∀ (m e : Nat) (w5 w6 w7 : Option Value) (I1 : aj_I), m + e = r_lst b 0 (ct 0) → (∀ a, a ≠ o + 2 → I1 a = I a) → (∀ j, j < fn_sum (s_q b w ct) e → I1 (o + 2) j = nI (s_D b w ct j)) →
      J 17 [some (.ref o), some (.ref (o + 5 + 0)), some (.int (nI (r_lst b 0 (ct 0)))), some (.int (nI (fn_sum (s_q b w ct) e))), some (.int (nI e)), w5, w6, w7] [] Z I1 G (0, 0) := by
    intro m
    induction m with
    | zero =>
      intro e w5 w6 w7 I1 he hfr hpl
      have he : e = r_lst b 0 (ct 0) := by omega
      refine b_151_17 hJ (fun _ => hQ I1 hfr (fun j hj => hpl j (by rw [he, hsum]; exact hj))) g0.2.1 (fun z => absurd (nI_le (by omega) (by omega)) z)
    | succ m ih =>
      intro e w5 w6 w7 I1 he hfr hpl
      have hf1 : fC I1 17 18 len b := hf.same (hfr 17 (by omega)) (hfr 18 (by omega))
      have ht1 : tkC I1 o w bx ct st len := ht.same (fun k hk => hfr _ (by omega))
      have hmono := fn_sum_mono (s_q b w ct) (a := e + 1) m
      rw [show e + 1 + m = r_lst b 0 (ct 0) by omega, hsum] at hmono
      have hmono : fn_sum (s_q b w ct) e + s_q b w ct e ≤ s_n b ct := hmono
      refine b_151_17 hJ (fun z => absurd z (nI_ge (by omega) (by omega))) g0.2.1 (fun _ => T_entryNumber (j := 0) hz g0.2 hf1 (ht1 0 (by decide)).1 t0.2 r0.1 (by omega) r_col_0 (b_151_30 hJ ?_))
      have inner : ∀ (p k : Nat) (w6 : Option Value) (I2 : aj_I), p + k = s_q b w ct e → (∀ a, a ≠ o + 2 → I2 a = I a) → (∀ j, j < fn_sum (s_q b w ct) e + k → I2 (o + 2) j = nI (s_D b w ct j)) →
          J 35 [some (.ref o), some (.ref (o + 5 + 0)), some (.int (nI (r_lst b 0 (ct 0)))), some (.int (nI (fn_sum (s_q b w ct) e + k))), some (.int (nI e)), some (.long (lN (s_q b w ct e))), w6, some (.int (nI k))] [] Z I2 G (0, 0) := by
        intro p
        induction p with
        | zero =>
          intro k w6 I2 hk hfr2 hpl2
          have hk : k = s_q b w ct e := by omega
          have hst : lN (s_q b w ct e) ≤ Int32.toInt64 (nI k) := by rw [nI_l (by omega), l_le (by omega) (by omega)]; omega
          refine b_151_35 hJ (fun _ => ?_) ho.1 (fun z => absurd hst z) ho.2.2.1 g0.2.1 (fun z => absurd hst z)
          rw [nI_1, hk]
          exact ih (e + 1) _ _ _ I2 (by omega) hfr2 (fun j hj => hpl2 j (by rw [hk]; exact hj))
        | succ p ih2 =>
          intro k w6 I2 hk hfr2 hpl2
          have hf2 : fC I2 17 18 len b := hf.same (hfr2 17 (by omega)) (hfr2 18 (by omega))
          have ht2 : tkC I2 o w bx ct st len := ht.same (fun k hk => hfr2 _ (by omega))
          have hv := (r0.2.2 e (by omega)).2.1 rfl
          refine b_151_35 hJ (fun z => ?_) ho.1 (fun _ z => ?_) ho.2.2.1 g0.2.1 (fun _ _ => T_entryNumber (j := 1) hz g0.2 hf2 (ht2 0 (by decide)).1 t0.2 r0.1 (by omega) r_col_01 (b_151_64 hJ ho.2.2.2.2.2.2.1 (vp_in_nI (by omega) (by decide)) ?_))
          · rw [nI_l (by omega), l_le (by omega) (by omega)] at z; omega
          · rw [hfr2 o (by omega), hn] at z; exact absurd z (nI_ge (by omega) (by omega))
          · rw [lN_i, nI_1, nI_1, nI_clamp (show fn_sum (s_q b w ct) e + k < 2 ^ 31 by omega)]
            refine ih2 (k + 1) _ _ (by omega) (fun a ha => by rw [aj_u2_ne ha]; exact hfr2 a ha) (fun j hj => ?_)
            by_cases q : j = fn_sum (s_q b w ct) e + k
            · rw [q, aj_u2_at]
              have := s_du_at (q := s_q b w ct) (v := s_v b w ct) (j := fn_sum (s_q b w ct) e + k) (e := e) (by omega) (by show _ < fn_sum (s_q b w ct) e + s_q b w ct e; omega) m
              rw [show e + 1 + m = r_lst b 0 (ct 0) by omega] at this
              unfold s_D
              rw [this]
              rfl
            · rw [aj_u2_n2 q]; exact hpl2 j (by omega)
      exact inner (s_q b w ct e) 0 _ I1 (Nat.add_zero _) hfr (fun j hj => hpl j hj)
  exact key (r_lst b 0 (ct 0)) 0 _ _ _ I (Nat.add_zero _) (fun _ _ => rfl) (fun j hj => absurd hj (Nat.not_lt_zero _))
theorem T_unfoldBegins (hz : zAll Z) (ho : zTB Z o) (hf : fC I 17 18 len b) (ht : tkC I o w bx ct st len) (hr : s_ok b w ct st) (ha : s_agr b w ct) (hn : I o 4 = nI (s_n b ct)) (hs : ∀ j, j < s_n b ct → I (o + 3) j = nI (s_S b w ct j)) (hQ : ∀ G' : aj_G, (∀ a, a ≠ o + 4 → G' a = G a) → (∀ j, j < s_n b ct → G' (o + 4) j = lN (s_G b w ct j)) → Q none Z I G') : aj_T (d + 4) mc ms 152 [.ref o] Z I G Q := by
  have g1 := ho.2.2.2.2.2.2.2.2.2 1 (by decide)
  have t1 := ht 1 (by decide)
  have r1 := hr 1 (by decide)
  have g3 := ho.2.2.2.2.2.2.2.2.2 3 (by decide)
  have t3 := ht 3 (by decide)
  have r3 := hr 3 (by decide)
  have hle := r_lst_le hf t1.2 r1.1
  have hl3 : r_lst b 3 (ct 3) = s_c b ct := rfl
  have hn16 := ha.2.1
  have hc16 := ha.2.2.1
  have hsum := ha.2.2.2.2.2.2
  have rise := s_rise hr
  refine t_152 fun J hJ => b_152_0 hJ ho.1 ho.2.1 ho.2.2.2.2.2.1 (vp_in_nI (n := 1) (by decide) (by decide)) g1.1 g1.2.1 (T_listed hz g1.2 hf t1.1 t1.2 r1.1 (b_152_11 hJ ho.1 ho.2.1 ho.2.2.2.2.2.1 (vp_in_nI (n := 3) (by decide) (by decide)) g3.1 g3.2.1 (T_listed hz g3.2 hf t3.1 t3.2 r3.1 (b_152_21 hJ ?_))))
  rw [hl3]
  have key : ∀ (m c e : Nat) (w7 w8 w9 w10 w11 : Option Value) (G1 : aj_G), m + c = s_c b ct → (0 < r_lst b 1 (ct 1) → e < r_lst b 1 (ct 1) ∧ s_F b w ct e ≤ c + 1 ∧ (e + 1 < r_lst b 1 (ct 1) → c < s_F b w ct (e + 1))) → e ≤ 1200 → (∀ a, a ≠ o + 4 → G1 a = G a) → (∀ j, j < fn_sum (s_pk b w ct) c → G1 (o + 4) j = lN (s_G b w ct j)) →
      J 31 [some (.ref o), some (.ref (o + 5 + 1)), some (.int (nI (r_lst b 1 (ct 1)))), some (.int (nI (s_c b ct))), some (.int (nI e)), some (.int (nI (fn_sum (s_pk b w ct) c))), some (.int (nI c)), w7, w8, w9, w10, w11] [] Z I G1 (0, 0) := by
    intro m
    induction m with
    | zero =>
      intro c e w7 w8 w9 w10 w11 G1 hc hinv he12 hfr hpl
      have hc : c = s_c b ct := by omega
      have hstop : nI (s_c b ct) ≤ nI c := nI_le (by omega) (by omega)
      exact b_152_31 hJ (fun _ => hQ G1 hfr (fun j hj => hpl j (by rw [hc, hsum]; exact hj))) (fun z => absurd hstop z) g1.2.1 (fun z => absurd hstop z)
    | succ m ih =>
      intro c e w7 w8 w9 w10 w11 G1 hc hinv he12 hfr hpl
      have hm1 : 0 < r_lst b 1 (ct 1) := Nat.pos_of_ne_zero (fun z => by have := ha.2.2.2.1 z; omega)
      obtain ⟨e1, e2, e3⟩ := hinv hm1
      have hmono := fn_sum_mono (s_pk b w ct) (a := c + 1) m
      rw [show c + 1 + m = s_c b ct by omega, hsum] at hmono
      have hmono : fn_sum (s_pk b w ct) c + s_pk b w ct c ≤ s_n b ct := hmono
      -- with the entry of the chunk at hand
      have chunk : ∀ (e' : Nat) (w7 w8 w9 w10 w11 : Option Value), e' < r_lst b 1 (ct 1) → s_F b w ct e' ≤ c + 1 → (e' + 1 < r_lst b 1 (ct 1) → c + 1 < s_F b w ct (e' + 1)) → J 66 [some (.ref o), some (.ref (o + 5 + 1)), some (.int (nI (r_lst b 1 (ct 1)))), some (.int (nI (s_c b ct))), some (.int (nI e')), some (.int (nI (fn_sum (s_pk b w ct) c))), some (.int (nI c)), w7, w8, w9, w10, w11] [] Z I G1 (0, 0) := by
        intro e' w7 w8 w9 w10 w11 f1 f2 f3
        have hP : s_pk b w ct c = s_P b w ct e' := by
          have := s_pc_at (F := s_F b w ct) (P := s_P b w ct) (x := c + 1) (e := e') f2 (r_lst b 1 (ct 1) - (e' + 1)) (fun i a1 a2 => s_riseU rise.2 f3 i a1 (by omega))
          rw [show e' + 1 + (r_lst b 1 (ct 1) - (e' + 1)) = r_lst b 1 (ct 1) by omega] at this
          exact this
        have hL : s_L b w ct c < 2 ^ 31 := (r3.2.2 c (by rw [hl3]; omega)).1
        refine b_152_66 hJ ho.1 ho.2.1 ho.2.2.2.2.2.1 (vp_in_nI (n := 3) (by decide) (by decide)) g3.1 g3.2.1 (T_entryNumber (j := 0) hz g3.2 hf t3.1 t3.2 r3.1 (by rw [hl3]; omega) r_col_0 (b_152_78 hJ g1.2.1 (T_entryNumber (j := 1) hz g1.2 hf t1.1 t1.2 r1.1 f1 r_col_11 (b_152_87 hJ ?_))))
        have inner : ∀ (p k : Nat) (w8 w10 : Option Value) (G2 : aj_G), p + k = s_pk b w ct c → (∀ a, a ≠ o + 4 → G2 a = G a) → (∀ j, j < fn_sum (s_pk b w ct) c + k → G2 (o + 4) j = lN (s_G b w ct j)) →
            J 92 [some (.ref o), some (.ref (o + 5 + 1)), some (.int (nI (r_lst b 1 (ct 1)))), some (.int (nI (s_c b ct))), some (.int (nI e')), some (.int (nI (fn_sum (s_pk b w ct) c + k))), some (.int (nI c)), some (.long (lN (s_L b w ct c + w_cb (s_S b w ct) (fn_sum (s_pk b w ct) c) k))), w8, some (.long (lN (s_P b w ct e'))), w10, some (.int (nI k))] [] Z I G2 (0, 0) := by
          intro p
          induction p with
          | zero =>
            intro k w8 w10 G2 hk hfr2 hpl2
            have hk : k = s_pk b w ct c := by omega
            have hst : lN (s_P b w ct e') ≤ Int32.toInt64 (nI k) := by rw [nI_l (by omega), ← hP, l_le (by omega) (by omega)]; omega
            refine b_152_92 hJ (fun _ => ?_) ho.1 (fun z => absurd hst z) ho.2.2.2.2.1 ho.2.2.2.2.2.2.2.2.1 (fun z => absurd hst z) ho.2.2.2.1 ho.2.2.2.2.2.2.2.1 (fun z => absurd hst z) (fun z => absurd hst z)
            rw [nI_1, hk]
            exact ih (c + 1) e' _ _ _ _ _ G2 (by omega) (fun _ => ⟨f1, by omega, f3⟩) (by omega) hfr2 (fun j hj => hpl2 j (by rw [hk]; exact hj))
          | succ p ih2 =>
            intro k w8 w10 G2 hk hfr2 hpl2
            have hi : fn_sum (s_pk b w ct) c + k < s_n b ct := by omega
            have hS := ha.2.2.2.2.1 _ hi
            refine b_152_92 hJ (fun z => ?_) ho.1 (fun _ z => ?_) ho.2.2.2.2.1 ho.2.2.2.2.2.2.2.2.1 (fun _ _ => vp_in_nI (by omega) (by decide)) ho.2.2.2.1 ho.2.2.2.2.2.2.2.1 (fun _ _ => vp_in_nI (by omega) (by decide)) (fun _ _ => ?_)
            · rw [nI_l (by omega), ← hP, l_le (by omega) (by omega)] at z; omega
            · rw [hn] at z; exact absurd z (nI_ge (by omega) (by omega))
            · rw [nI_clamp (show fn_sum (s_pk b w ct) c + k < 2 ^ 31 by omega), hs _ hi, nI_l (by omega), lN_add, nI_1, nI_1, Nat.add_assoc (s_L b w ct c)]
              refine ih2 (k + 1) _ _ (aj_u2 G2 (o + 4) (fn_sum (s_pk b w ct) c + k) (lN (s_L b w ct c + w_cb (s_S b w ct) (fn_sum (s_pk b w ct) c) k))) (by omega) (fun a ha => by rw [aj_u2_ne ha]; exact hfr2 a ha) (fun j hj => ?_)
              by_cases q : j = fn_sum (s_pk b w ct) c + k
              · rw [q, aj_u2_at]
                have := s_bg_at (p := s_pk b w ct) (L := s_L b w ct) (S := s_S b w ct) (j := fn_sum (s_pk b w ct) c + k) (c := c) (by omega) (by show _ < fn_sum (s_pk b w ct) c + s_pk b w ct c; omega) m
                rw [show c + 1 + m = s_c b ct by omega, show fn_sum (s_pk b w ct) c + k - fn_sum (s_pk b w ct) c = k by omega] at this
                unfold s_G
                rw [this]
              · rw [aj_u2_n2 q]; exact hpl2 j (by omega)
        exact inner (s_pk b w ct c) 0 _ _ G1 (Nat.add_zero _) hfr (fun j hj => hpl j hj)
      refine b_152_31 hJ (fun z => absurd z (nI_ge (by omega) (by omega))) (fun _ z => ?_) g1.2.1 (fun _ z => ?_)
      · rw [nI_1] at z
        have z := (nI_leI (by omega) (by omega)).mp z
        exact chunk e _ _ _ _ _ e1 e2 (fun y => absurd y (by omega))
      · rw [nI_1] at z ⊢
        have z : e + 1 < r_lst b 1 (ct 1) := Nat.not_le.mp (fun y => z (nI_le y (by omega)))
        have bF := r_en_lt4 hf t1.1.2.2.2.2.2.2.1 t1.2 r1.1 (by decide) z (r_col_0 (k := 1) (w := w))
        refine T_entryNumber (j := 0) hz g1.2 hf t1.1 t1.2 r1.1 z r_col_0 (b_152_54 hJ (fun y => ?_) (fun y => ?_))
        · rw [nI_1, nI_l (by omega)] at y
          refine chunk e _ _ _ _ _ e1 e2 (fun _ => ?_)
          have h3 := e3 z
          have : s_F b w ct (e + 1) ≠ c + 1 := fun x => y (by show lN (s_F b w ct (e + 1)) = _; rw [x])
          omega
        · rw [nI_1, nI_l (by omega), l_eq (by omega) (by omega)] at y
          have y : s_F b w ct (e + 1) = c + 1 := y
          rw [nI_1]
          refine chunk (e + 1) _ _ _ _ _ z (by omega) (fun x => ?_)
          have := rise.2 (e + 1) x
          omega
  exact key (s_c b ct) 0 0 _ _ _ _ _ G (Nat.add_zero _) (fun h => ⟨h, by rw [rise.1 h]; omega, fun h2 => by have := rise.2 0 h2; rw [rise.1 h] at this; omega⟩) (by decide) (fun _ _ => rfl) (fun j hj => absurd hj (Nat.not_lt_zero _))
end RC1
