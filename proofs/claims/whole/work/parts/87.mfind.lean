/-! read: the reference finds the samples -/
section MH
variable {Z : aj_Z} {I : aj_I} {G : aj_G} {Q : aj_Q} {len : Nat} {b : Nat → Nat} {s : r_ps} {t : Nat} {w : Bool} {bx ct st : Nat → Nat} {d mc ms : Nat}
/-- the samples of track t, as the reference found them -/
def uM (I : aj_I) (G : aj_G) (b : Nat → Nat) (t : Nat) (w : Bool) (ct : Nat → Nat) : Prop := I 67 t = nI (s_n b ct) ∧ ∀ j, j < s_n b ct → I 68 (16 * t + j) = nI (s_D b w ct j) ∧ I 69 (16 * t + j) = nI (s_S b w ct j) ∧ G 70 (16 * t + j) = lN (s_G b w ct j)
theorem M_findSamples (hz : zAll Z) (hf : mF I len b) (ht3 : t < 3) (ht : tkM I t w bx ct st len) (hr : s_ok b w ct st) (ha : s_agr b w ct)
    (hQ : ∀ (I' : aj_I) (G' : aj_G), (∀ a, a ≠ 67 → a ≠ 68 → a ≠ 69 → I' a = I a) → (∀ a, a ≠ 70 → G' a = G a) → (∀ u, u ≠ t → I' 67 u = I 67 u) → (∀ i, i < 16 * t ∨ 16 * t + 16 ≤ i → I' 68 i = I 68 i ∧ I' 69 i = I 69 i ∧ G' 70 i = G 70 i) → uM I' G' b t w ct → Q none Z I' G') : aj_T (d + 5) mc ms 63 [.ref 54, .int (nI t)] Z I G Q := by
  have r0 := hr 0 (by decide)
  have r1 := hr 1 (by decide)
  have r2 := hr 2 (by decide)
  have r3 := hr 3 (by decide)
  have tk0 := ht.2 0 (by decide)
  have tk1 := ht.2 1 (by decide)
  have hle0 := r_lst_le hf.cl tk0.2.2.2.2 r0.1
  have hle1 := r_lst_le hf.cl tk1.2.2.2.2 r1.1
  have hn16 := ha.2.1
  have hc16 := ha.2.2.1
  have hsum := ha.1
  have hsumP := ha.2.2.2.2.2.2
  have hl3 : r_lst b 3 (ct 3) = s_c b ct := rfl
  refine t_63 fun J hJ => b_63_0 hJ (zk_54 hz) (M_manyOf (k := 2) hz hf ht3 ht (by decide) r2.1.1 (b_63_6 hJ (zk_54 hz) (zr_54_24 hz) (zk_67 hz) (vp_in_nI (by omega) (by decide)) ?_))
  rw [lN_i, nI_clamp (show t < 2 ^ 31 by omega)]
  show J 20 [some (.ref 54), some (.int (nI t)), some (.int (nI (s_n b ct))), some (.int 0), some (.int 0), none, none, none] [] Z (aj_u2 I 67 t (nI (s_n b ct))) G (0, 0)
  -- what stays while it finds
  have mf : ∀ I1 : aj_I, (∀ a, a ≠ 67 → a ≠ 68 → a ≠ 69 → I1 a = I a) → mF I1 len b ∧ tkM I1 t w bx ct st len := fun I1 h => ⟨hf.same (by rw [h 54 (by decide) (by decide) (by decide)]) (h 59 (by decide) (by decide) (by decide)), ht.same (h 63 (by decide) (by decide) (by decide)) (h 64 (by decide) (by decide) (by decide)) (h 65 (by decide) (by decide) (by decide)) (h 66 (by decide) (by decide) (by decide))⟩
  -- the chunks
  have places : ∀ (w2 w5 w6 w7 : Option Value) (I0 : aj_I), (∀ a, a ≠ 67 → a ≠ 68 → a ≠ 69 → I0 a = I a) → (∀ u, u ≠ t → I0 67 u = I 67 u) → I0 67 t = nI (s_n b ct) → (∀ i, i < 16 * t ∨ 16 * t + 16 ≤ i → I0 68 i = I 68 i ∧ I0 69 i = I 69 i) → (∀ j, j < s_n b ct → I0 68 (16 * t + j) = nI (s_D b w ct j)) → J 94 [some (.ref 54), some (.int (nI t)), w2, some (.int 0), some (.int 1), w5, w6, w7] [] Z I0 G (0, 0) := by
    intro w2 w5 w6 w7 I0 hfr h67 h67t hout hD
    have key : ∀ (m c : Nat) (w2 w5 w6 w7 : Option Value) (I1 : aj_I) (G1 : aj_G), m + c = s_c b ct → (∀ a, a ≠ 69 → I1 a = I0 a) → (∀ a, a ≠ 70 → G1 a = G a) → (∀ i, i < 16 * t ∨ 16 * t + 16 ≤ i → I1 69 i = I0 69 i ∧ G1 70 i = G 70 i) → (∀ j, j < fn_sum (s_pk b w ct) c → I1 69 (16 * t + j) = nI (s_S b w ct j) ∧ G1 70 (16 * t + j) = lN (s_G b w ct j)) →
        J 94 [some (.ref 54), some (.int (nI t)), w2, some (.int (nI (fn_sum (s_pk b w ct) c))), some (.int (nI (c + 1))), w5, w6, w7] [] Z I1 G1 (0, 0) := by
      intro m
      induction m with
      | zero =>
        intro c w2 w5 w6 w7 I1 G1 hc hI hG hou hpl
        have hc : c = s_c b ct := by omega
        have hmf := mf I1 (fun a a1 a2 a3 => by rw [hI a a3]; exact hfr a a1 a2 a3)
        have hst : lN (s_c b ct) < Int32.toInt64 (nI (c + 1)) := by rw [nI_l (by omega), l_lt (by omega) (by omega)]; omega
        refine b_63_94 hJ (zk_54 hz) (M_manyOf (k := 3) hz hmf.1 ht3 hmf.2 (by decide) r3.1.1 (b_63_103 hJ (fun _ => ?_) (zk_54 hz) (fun z => absurd hst z)))
        refine hQ I1 G1 (fun a a1 a2 a3 => by rw [hI a a3]; exact hfr a a1 a2 a3) hG (fun u hu => by rw [hI 67 (by decide)]; exact h67 u hu) (fun i hi => ⟨by rw [hI 68 (by decide)]; exact (hout i hi).1, by rw [(hou i hi).1]; exact (hout i hi).2, (hou i hi).2⟩) ⟨by rw [hI 67 (by decide)]; exact h67t, fun j hj => ⟨by rw [hI 68 (by decide)]; exact hD j hj, hpl j (by rw [hc, hsumP]; exact hj)⟩⟩
      | succ m ih =>
        intro c w2 w5 w6 w7 I1 G1 hc hI hG hou hpl
        have hmf := mf I1 (fun a a1 a2 a3 => by rw [hI a a3]; exact hfr a a1 a2 a3)
        have nst : ¬ lN (s_c b ct) < Int32.toInt64 (nI (c + 1)) := by rw [nI_l (by omega), l_lt (by omega) (by omega)]; omega
        have hmono := fn_sum_mono (s_pk b w ct) (a := c + 1) m
        rw [show c + 1 + m = s_c b ct by omega, hsumP] at hmono
        have hmono : fn_sum (s_pk b w ct) c + s_pk b w ct c ≤ s_n b ct := hmono
        have hL : s_L b w ct c < 2 ^ 31 := (r3.2.2 c (by rw [hl3]; omega)).1
        refine b_63_94 hJ (zk_54 hz) (M_manyOf (k := 3) hz hmf.1 ht3 hmf.2 (by decide) r3.1.1 (b_63_103 hJ (fun z => absurd z nst) (zk_54 hz) (fun _ => ?_)))
        rw [nI_pred]
        refine M_entry (k := 3) (j := 0) hz hmf.1 ht3 hmf.2 (by decide) r3.1 (by rw [hl3]; omega) r_col_0 (b_63_118 hJ ?_)
        have inner : ∀ (p k : Nat) (w2 w6 : Option Value) (I2 : aj_I) (G2 : aj_G), p + k = s_pk b w ct c → (∀ a, a ≠ 69 → I2 a = I0 a) → (∀ a, a ≠ 70 → G2 a = G a) → (∀ i, i < 16 * t ∨ 16 * t + 16 ≤ i → I2 69 i = I0 69 i ∧ G2 70 i = G 70 i) → (∀ j, j < fn_sum (s_pk b w ct) c + k → I2 69 (16 * t + j) = nI (s_S b w ct j) ∧ G2 70 (16 * t + j) = lN (s_G b w ct j)) →
            J 123 [some (.ref 54), some (.int (nI t)), w2, some (.int (nI (fn_sum (s_pk b w ct) c + k))), some (.int (nI (c + 1))), some (.long (lN (s_L b w ct c + w_cb (s_S b w ct) (fn_sum (s_pk b w ct) c) k))), w6, some (.int (nI k))] [] Z I2 G2 (0, 0) := by
          intro p
          induction p with
          | zero =>
            intro k w2 w6 I2 G2 hk hI2 hG2 hou2 hpl2
            have hk : k = s_pk b w ct c := by omega
            have hmf2 := mf I2 (fun a a1 a2 a3 => by rw [hI2 a a3]; exact hfr a a1 a2 a3)
            have hst : lN (s_pk b w ct c) ≤ Int32.toInt64 (nI k) := by rw [nI_l (by omega), l_le (by omega) (by omega)]; omega
            refine b_63_123 hJ (zk_54 hz) (M_perChunk hz hmf2.1 ht3 hmf2.2 hr (by omega) (b_63_133 hJ (fun _ => ?_) (zk_54 hz) (zr_54_26 hz) (fun z => absurd hst z)))
            rw [nI_1, hk]
            exact ih (c + 1) _ _ _ _ I2 G2 (by omega) hI2 hG2 hou2 (fun j hj => hpl2 j (by rw [hk]; exact hj))
          | succ p ih2 =>
            intro k w2 w6 I2 G2 hk hI2 hG2 hou2 hpl2
            have hmf2 := mf I2 (fun a a1 a2 a3 => by rw [hI2 a a3]; exact hfr a a1 a2 a3)
            have hi : fn_sum (s_pk b w ct) c + k < s_n b ct := by omega
            have hS := ha.2.2.2.2.1 _ hi
            have nst2 : ¬ lN (s_pk b w ct c) ≤ Int32.toInt64 (nI k) := by rw [nI_l (by omega), l_le (by omega) (by omega)]; omega
            have vi : vp_in (nI (16 * t + (fn_sum (s_pk b w ct) c + k))) 48 := vp_in_nI (by omega) (by decide)
            refine b_63_123 hJ (zk_54 hz) (M_perChunk hz hmf2.1 ht3 hmf2.2 hr (by omega) (b_63_133 hJ (fun z => absurd z nst2) (zk_54 hz) (zr_54_26 hz) (fun _ => ?_)))
            rw [sm_16]
            refine M_sizeOf hz hmf2.1 ht3 hmf2.2 hr hi (b_63_153 hJ (zk_69 hz) vi (zk_54 hz) (zr_54_27 hz) (zk_70 hz) (by rw [sm_16]; exact vi) ?_)
            rw [sm_16, lN_i, nI_clamp (show 16 * t + (fn_sum (s_pk b w ct) c + k) < 2 ^ 31 by omega)]
            have hI3 : ∀ a, a ≠ 69 → aj_u2 I2 69 (16 * t + (fn_sum (s_pk b w ct) c + k)) (nI (s_S b w ct (fn_sum (s_pk b w ct) c + k))) a = I0 a := fun a ha => by rw [aj_u2_ne ha]; exact hI2 a ha
            have hmf3 := mf (aj_u2 I2 69 (16 * t + (fn_sum (s_pk b w ct) c + k)) (nI (s_S b w ct (fn_sum (s_pk b w ct) c + k)))) (fun a a1 a2 a3 => by rw [hI3 a a3]; exact hfr a a1 a2 a3)
            refine M_sizeOf hz hmf3.1 ht3 hmf3.2 hr hi (b_63_176 hJ ?_)
            rw [lN_add, nI_1, nI_1, Nat.add_assoc (s_L b w ct c)]
            refine ih2 (k + 1) _ _ _ (aj_u2 G2 70 (16 * t + (fn_sum (s_pk b w ct) c + k)) (lN (s_L b w ct c + w_cb (s_S b w ct) (fn_sum (s_pk b w ct) c) k))) (by omega) hI3 (fun a h70 => by rw [aj_u2_ne h70]; exact hG2 a h70) (fun i hi2 => ⟨by rw [aj_u2_n2 (by omega)]; exact (hou2 i hi2).1, by rw [aj_u2_n2 (by omega)]; exact (hou2 i hi2).2⟩) (fun j hj => ?_)
            by_cases q : j = fn_sum (s_pk b w ct) c + k
            · rw [q, aj_u2_at, aj_u2_at]
              have := s_bg_at (p := s_pk b w ct) (L := s_L b w ct) (S := s_S b w ct) (j := fn_sum (s_pk b w ct) c + k) (c := c) (by omega) (by show _ < fn_sum (s_pk b w ct) c + s_pk b w ct c; omega) m
              rw [show c + 1 + m = s_c b ct by omega, show fn_sum (s_pk b w ct) c + k - fn_sum (s_pk b w ct) c = k by omega] at this
              refine ⟨rfl, ?_⟩
              unfold s_G
              rw [this]
            · rw [aj_u2_n2 (by omega), aj_u2_n2 (by omega)]; exact hpl2 j (by omega)
        exact inner (s_pk b w ct c) 0 _ _ I1 G1 (Nat.add_zero _) hI hG hou (fun j hj => hpl j hj)
    exact key (s_c b ct) 0 _ _ _ _ I0 G (Nat.add_zero _) (fun _ _ => rfl) (fun _ _ => rfl) (fun _ _ => ⟨rfl, rfl⟩) (fun j hj => absurd hj (Nat.not_lt_zero _))
  -- the durations
  have key : ∀ (m e : Nat) (w2 w5 w6 w7 : Option Value) (I1 : aj_I), m + e = r_lst b 0 (ct 0) → (∀ a, a ≠ 67 → a ≠ 68 → I1 a = I a) → (∀ u, u ≠ t → I1 67 u = I 67 u) → I1 67 t = nI (s_n b ct) → (∀ i, i < 16 * t ∨ 16 * t + 16 ≤ i → I1 68 i = I 68 i) → (∀ j, j < fn_sum (s_q b w ct) e → I1 68 (16 * t + j) = nI (s_D b w ct j)) →
      J 20 [some (.ref 54), some (.int (nI t)), w2, some (.int (nI (fn_sum (s_q b w ct) e))), some (.int (nI e)), w5, w6, w7] [] Z I1 G (0, 0) := by
    intro m
    induction m with
    | zero =>
      intro e w2 w5 w6 w7 I1 he hfr h67 h67t hout hpl
      have he : e = r_lst b 0 (ct 0) := by omega
      have hmf := mf I1 (fun a a1 a2 _ => hfr a a1 a2)
      have hst : lN (r_lst b 0 (ct 0)) ≤ Int32.toInt64 (nI e) := by rw [nI_l (by omega), l_le (by omega) (by omega)]; omega
      refine b_63_20 hJ (zk_54 hz) (M_entriesOf (k := 0) hz hmf.1 ht3 hmf.2 (by decide) r0.1.1 (b_63_29 hJ (fun _ => ?_) (fun z => absurd hst z)))
      exact places _ _ _ _ I1 (fun a a1 a2 _ => hfr a a1 a2) h67 h67t (fun i hi => ⟨hout i hi, by rw [hfr 69 (by decide) (by decide)]⟩) (fun j hj => hpl j (by rw [he, hsum]; exact hj))
    | succ m ih =>
      intro e w2 w5 w6 w7 I1 he hfr h67 h67t hout hpl
      have hmf := mf I1 (fun a a1 a2 _ => hfr a a1 a2)
      have nst : ¬ lN (r_lst b 0 (ct 0)) ≤ Int32.toInt64 (nI e) := by rw [nI_l (by omega), l_le (by omega) (by omega)]; omega
      have hmono := fn_sum_mono (s_q b w ct) (a := e + 1) m
      rw [show e + 1 + m = r_lst b 0 (ct 0) by omega, hsum] at hmono
      have hmono : fn_sum (s_q b w ct) e + s_q b w ct e ≤ s_n b ct := hmono
      refine b_63_20 hJ (zk_54 hz) (M_entriesOf (k := 0) hz hmf.1 ht3 hmf.2 (by decide) r0.1.1 (b_63_29 hJ (fun z => absurd z nst) (fun _ => ?_)))
      have inner : ∀ (p k : Nat) (w2 w6 w7 : Option Value) (I2 : aj_I), p + k = s_q b w ct e → (∀ a, a ≠ 67 → a ≠ 68 → I2 a = I a) → (∀ u, u ≠ t → I2 67 u = I 67 u) → I2 67 t = nI (s_n b ct) → (∀ i, i < 16 * t ∨ 16 * t + 16 ≤ i → I2 68 i = I 68 i) → (∀ j, j < fn_sum (s_q b w ct) e + k → I2 68 (16 * t + j) = nI (s_D b w ct j)) →
          J 36 [some (.ref 54), some (.int (nI t)), w2, some (.int (nI (fn_sum (s_q b w ct) e + k))), some (.int (nI e)), some (.int (nI k)), w6, w7] [] Z I2 G (0, 0) := by
        intro p
        induction p with
        | zero =>
          intro k w2 w6 w7 I2 hk hfr2 g67 g67t hout2 hpl2
          have hk : k = s_q b w ct e := by omega
          have hmf2 := mf I2 (fun a a1 a2 _ => hfr2 a a1 a2)
          have hst : lN (s_q b w ct e) ≤ Int32.toInt64 (nI k) := by rw [nI_l (by omega), l_le (by omega) (by omega)]; omega
          refine b_63_36 hJ (zk_54 hz) (M_entry (k := 0) (j := 0) hz hmf2.1 ht3 hmf2.2 (by decide) r0.1 (by omega) r_col_0 (b_63_48 hJ (fun _ => ?_) (zk_54 hz) (zr_54_25 hz) (fun z => absurd hst z)))
          rw [nI_1, hk]
          exact ih (e + 1) _ _ _ _ I2 (by omega) hfr2 g67 g67t hout2 (fun j hj => hpl2 j (by rw [hk]; exact hj))
        | succ p ih2 =>
          intro k w2 w6 w7 I2 hk hfr2 g67 g67t hout2 hpl2
          have hmf2 := mf I2 (fun a a1 a2 _ => hfr2 a a1 a2)
          have nst2 : ¬ lN (s_q b w ct e) ≤ Int32.toInt64 (nI k) := by rw [nI_l (by omega), l_le (by omega) (by omega)]; omega
          refine b_63_36 hJ (zk_54 hz) (M_entry (k := 0) (j := 0) hz hmf2.1 ht3 hmf2.2 (by decide) r0.1 (by omega) r_col_0 (b_63_48 hJ (fun z => absurd z nst2) (zk_54 hz) (zr_54_25 hz) (fun _ => ?_)))
          rw [sm_16]
          refine M_entry (k := 0) (j := 1) hz hmf2.1 ht3 hmf2.2 (by decide) r0.1 (by omega) r_col_01 (b_63_71 hJ (zk_68 hz) (vp_in_nI (by omega) (by decide)) ?_)
          rw [lN_i, nI_1, nI_1, nI_clamp (show 16 * t + (fn_sum (s_q b w ct) e + k) < 2 ^ 31 by omega)]
          refine ih2 (k + 1) _ _ _ _ (by omega) (fun a a1 a2 => by rw [aj_u2_ne a2]; exact hfr2 a a1 a2) (fun u hu => by rw [aj_u2_ne (by decide)]; exact g67 u hu) (by rw [aj_u2_ne (by decide)]; exact g67t) (fun i hi => by rw [aj_u2_n2 (by omega)]; exact hout2 i hi) (fun j hj => ?_)
          by_cases q : j = fn_sum (s_q b w ct) e + k
          · rw [q, aj_u2_at]
            have := s_du_at (q := s_q b w ct) (v := s_v b w ct) (j := fn_sum (s_q b w ct) e + k) (e := e) (by omega) (by show _ < fn_sum (s_q b w ct) e + s_q b w ct e; omega) m
            rw [show e + 1 + m = r_lst b 0 (ct 0) by omega] at this
            unfold s_D
            rw [this]
            rfl
          · rw [aj_u2_n2 (by omega)]; exact hpl2 j (by omega)
      exact inner (s_q b w ct e) 0 _ _ _ I1 (Nat.add_zero _) hfr h67 h67t hout (fun j hj => hpl j hj)
  exact key (r_lst b 0 (ct 0)) 0 _ _ _ _ _ (Nat.add_zero _) (fun a a1 _ => aj_u2_ne a1) (fun u hu => aj_u2_n2 hu) aj_u2_at (fun i _ => by rw [aj_u2_ne (by decide)]) (fun j hj => absurd hj (Nat.not_lt_zero _))
theorem M_allInData (hz : zAll Z) (ht3 : t < 3) {lo hi : Nat} (hlo : lo ≤ 1200) (hhi : hi ≤ 1200) (h13 : I 54 13 = nI lo) (h14 : I 54 14 = nI hi) (hn16 : s_n b ct ≤ 16) (hS : ∀ i, i < s_n b ct → s_S b w ct i ≤ 8) (hG : ∀ i, i < s_n b ct → s_G b w ct i < 2 ^ 32) (hu : uM I G b t w ct) (h1 : s_in b w ct lo hi → Q (some (.int 1)) Z I G) (h0 : ¬ s_in b w ct lo hi → Q (some (.int 0)) Z I G) : aj_T (d + 1) mc ms 64 [.ref 54, .int (nI t)] Z I G Q := by
  have nar1 : narrow .boolean (.int 1) = .int 1 := rfl
  have nar0 : narrow .boolean (.int 0) = .int 0 := rfl
  have e16 : (16 : Int32) * nI t = nI (16 * t) := pk_mul 16 t
  have ec : (16 : Int32) * nI t + I 67 (nI t).toNatClampNeg = nI (16 * t + s_n b ct) := by rw [nI_clamp (by omega), hu.1, sm_16]
  refine t_64 fun J hJ => b_64_0 hJ ?_
  rw [e16]
  have vt : vp_in (nI t) 3 := vp_in_nI (by omega) (by decide)
  have key : ∀ (m i : Nat) (f : Int32), m + i = s_n b ct → (f = 0 ∨ f = 1) → (f = 1 ↔ (∀ j, j < i → 0 < s_S b w ct j → lo ≤ s_G b w ct j ∧ s_G b w ct j + s_S b w ct j ≤ hi)) → J 7 [some (.ref 54), some (.int (nI t)), some (.int f), some (.int (nI (16 * t + i)))] [] Z I G (0, 0) := by
    intro m
    induction m with
    | zero =>
      intro i f hi' f01 hff
      have hi' : i = s_n b ct := by omega
      subst hi'
      have hst : (16 : Int32) * nI t + I 67 (nI t).toNatClampNeg ≤ nI (16 * t + s_n b ct) := by rw [ec]; exact nI_le (by omega) (by omega)
      refine b_64_7 hJ (zk_54 hz) (zr_54_24 hz) (zk_67 hz) vt (fun _ => ?_) (fun _ => ?_) (fun z => absurd hst z) (zr_54_26 hz) (zk_69 hz) (fun z => absurd hst z) (fun z => absurd hst z) (zr_54_27 hz) (zk_70 hz) (fun z => absurd hst z) (fun z => absurd hst z) (fun z => absurd hst z) (fun z => absurd hst z) (fun z => absurd hst z) (fun z => absurd hst z)
      · rcases f01 with q | q <;> rw [q] <;> rfl
      · rcases f01 with q | q
        · rw [q]
          refine h0 (fun y => ?_)
          have := hff.mpr (fun j hj hp => y j hj hp)
          rw [q] at this
          exact absurd this (by decide)
        · rw [q]
          exact h1 (fun j hj hp => hff.mp q j hj hp)
    | succ m ih =>
      intro i f hi' f01 hff
      have hil : i < s_n b ct := by omega
      have hx := hu.2 i hil
      have hs8 := hS i hil
      have hg := hG i hil
      have nst : ¬ (16 : Int32) * nI t + I 67 (nI t).toNatClampNeg ≤ nI (16 * t + i) := by rw [ec]; exact nI_ge (by omega) (by omega)
      have eS : I 69 (nI (16 * t + i)).toNatClampNeg = nI (s_S b w ct i) := by rw [nI_clamp (by omega)]; exact hx.2.1
      have eG : G 70 (nI (16 * t + i)).toNatClampNeg = lN (s_G b w ct i) := by rw [nI_clamp (by omega)]; exact hx.2.2
      have vin : vp_in (nI (16 * t + i)) 48 := vp_in_nI (by omega) (by decide)
      have no : ¬ ((0 < s_S b w ct i → lo ≤ s_G b w ct i ∧ s_G b w ct i + s_S b w ct i ≤ hi) ∧ f = 1) → J 7 [some (.ref 54), some (.int (nI t)), some (.int 0), some (.int (nI (16 * t + i) + 1))] [] Z I G (0, 0) := by
        intro hno
        rw [nI_1]
        refine ih (i + 1) 0 (by omega) (Or.inl rfl) ⟨fun x => absurd x (by decide), fun x => absurd ⟨x i (by omega), hff.mpr (fun j hj => x j (by omega))⟩ hno⟩
      have yes : (0 < s_S b w ct i → lo ≤ s_G b w ct i ∧ s_G b w ct i + s_S b w ct i ≤ hi) → f = 1 → J 7 [some (.ref 54), some (.int (nI t)), some (.int 1), some (.int (nI (16 * t + i) + 1))] [] Z I G (0, 0) := by
        intro hy hf1
        rw [nI_1]
        refine ih (i + 1) 1 (by omega) (Or.inr rfl) ⟨fun _ j hj => ?_, fun _ => rfl⟩
        by_cases q : j = i
        · rw [q]; exact hy
        · exact hff.mp hf1 j (by omega)
      refine b_64_7 hJ (zk_54 hz) (zr_54_24 hz) (zk_67 hz) vt (fun z => absurd z nst) (fun z => absurd z nst) (fun _ z => no (fun y => ?_)) (zr_54_26 hz) (zk_69 hz) (fun _ _ => vin) (fun _ z y => yes (fun x => ?_) (f01.resolve_left z)) (zr_54_27 hz) (zk_70 hz) (fun _ _ _ => vin) (fun _ z y x => no (fun v => ?_)) (fun _ _ _ _ => vin) (fun _ _ _ _ => vin) (fun _ z y x v => no (fun u => ?_)) (fun _ z y x v => yes (fun _ => ⟨?_, ?_⟩) (f01.resolve_left z))
      · rw [z] at y
        exact absurd y.2 (by decide)
      · rw [eS] at y
        have y : s_S b w ct i = 0 := (nI_eq (b := 0) (by omega) (by decide)).mp y
        omega
      · rw [eS] at y
        have y : s_S b w ct i ≠ 0 := fun z => y (by rw [z]; rfl)
        rw [eG, h13, nI_l (by omega), l_lt (by omega) (by omega)] at x
        have := (v.1 (by omega)).1
        omega
      · rw [eS] at y
        have y : s_S b w ct i ≠ 0 := fun z => y (by rw [z]; rfl)
        rw [eG, eS, h14, nI_l (by omega), nI_l (by omega), lN_add, l_lt (by omega) (by omega)] at v
        have := (u.1 (by omega)).2
        omega
      · rw [eG, h13, nI_l (by omega), l_lt (by omega) (by omega)] at x
        omega
      · rw [eG, eS, h14, nI_l (by omega), nI_l (by omega), lN_add, l_lt (by omega) (by omega)] at v
        omega
  exact key (s_n b ct) 0 1 (Nat.add_zero _) (Or.inr rfl) ⟨fun _ j hj => absurd hj (Nat.not_lt_zero _), fun _ => rfl⟩
end MH
