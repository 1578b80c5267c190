/-! the reference's write: the tables -/
theorem w_const {du : Nat → Nat} {b : Nat} : ∀ (m : Nat), (∀ j, b < j → j ≤ b + m → ¬ w_bg du j) → du (b + m) = du b
  | 0, _ => rfl
  | m + 1, h => by
    have h1 := w_const m (fun j h1 h2 => h j h1 (by omega))
    have h2 := h (b + (m + 1)) (by omega) (Nat.le_refl _)
    have h3 : du (b + (m + 1)) = du (b + (m + 1) - 1) := Classical.byContradiction (fun q => h2 (Or.inr q))
    rw [h3, show b + (m + 1) - 1 = b + m by omega, h1]
theorem w_endrun {du : Nat → Nat} {c : Nat} : ∀ (m b : Nat), (∀ j, b < j → j ≤ b + m → ¬ w_bg du j) → b + m < c → (b + m + 1 = c ∨ w_bg du (b + m + 1)) → w_end du (c - (b + 1)) (b + 1) = b + m + 1
  | 0, b, _, h1, h2 => by
    rcases h2 with h2 | h2
    · rw [show c - (b + 1) = 0 by omega]; rfl
    · rcases Nat.eq_zero_or_pos (c - (b + 1)) with q | q
      · rw [q]; rfl
      · rw [show c - (b + 1) = (c - (b + 1) - 1) + 1 by omega, w_end_y h2]
  | m + 1, b, h, h1, h2 => by
    rw [show c - (b + 1) = (c - (b + 1 + 1)) + 1 by omega, w_end_n (h (b + 1) (by omega) (by omega))]
    rw [w_endrun m (b + 1) (fun j a1 a2 => h j (by omega) (by omega)) (by omega) (by rw [show b + 1 + m + 1 = b + (m + 1) + 1 by omega]; exact h2)]
    omega
theorem w_sttsE_run {du : Nat → Nat} {c b : Nat} : ∀ (m : Nat), (∀ j, b < j → j ≤ b + m → ¬ w_bg du j) → w_sttsE du c (b + m + 1) = w_sttsE du c (b + 1)
  | 0, _ => rfl
  | m + 1, h => by
    rw [show b + (m + 1) + 1 = (b + m + 1) + 1 by omega, w_sttsE_n (h (b + m + 1) (by omega) (by omega)), w_sttsE_run m (fun j a1 a2 => h j a1 (by omega))]
theorem f_put0 {s : Nat × (Nat → Nat)} : f_put s (0, 8) = f_put (f_put s (0, 4)) (0, 4) := by
  have h0 : ∀ k, fn_by 0 k = 0 := fun k => by
    unfold fn_by
    rw [show (0 : Int64).toBitVec.toNat = 0 from rfl, Nat.zero_div]
  unfold f_put fn_app
  show (s.1 + 8, _) = (s.1 + 4 + 4, _)
  congr 1
  funext j
  simp only [h0]
  by_cases a : s.1 ≤ j ∧ j < s.1 + 8
  · rw [if_pos a]
    by_cases b : s.1 + 4 ≤ j ∧ j < s.1 + 4 + 4
    · rw [if_pos b]
    · rw [if_neg b, if_pos (by omega)]
  · rw [if_neg a, if_neg (by omega), if_neg (by omega)]
theorem m_th (w m : Nat) : (16 : Int32) + nI w * nI m = nI (16 + m * w) := by rw [pk_mul, show (16 : Int32) = nI 16 from rfl, nI_add, Nat.mul_comm]
section MX
variable {Z : aj_Z} {I0 I : aj_I} {G : aj_G} {Q : aj_Q} {s : Nat × (Nat → Nat)} {n : Nat} {c : Nat → Nat} {du si : Nat → Nat → Nat} {da : Nat → Nat → Int64} {per : Nat} {far wide : Bool} {d mc ms : Nat}
theorem M_writeTimes (hz : zAll Z) (hr : mR I0 G n c du si da) {t : Nat} (ht : t < n) (he : eM I0 I s) (hfit : s.1 + (16 + 8 * w_rows (du t) (c t)) ≤ 1200) (hQ : ∀ I' : aj_I, eM I0 I' (f_ps s (w_stts (du t) (c t))) → Q none Z I' G) : aj_T (d + 3) mc ms 34 [.ref 54, .int (nI t)] Z I G Q := by
  have hn := hr.2.1
  have hc := hr.2.2 t ht
  have h16 := hc.2.1
  have hrl := w_rows_le (du t) (c t)
  refine t_34 fun J hJ => b_34_0 hJ (zk_54 hz) (M_rowsOf hz (he.rl hr) ht (b_34_5 hJ (zk_54 hz) ?_))
  rw [show (16 : Int32) + 8 * nI (w_rows (du t) (c t)) = nI (16 + w_rows (du t) (c t) * 8) from m_th 8 _]
  refine M_head hz he (by omega) (fun I1 h1 => b_34_19 hJ (zk_54 hz) (M_add4 hz h1 ?_ (fun I2 h2 => b_34_25 hJ (zk_54 hz) (M_add4 hz h2 ?_ (fun I3 h3 => b_34_32 hJ ?_)))))
  · show s.1 + 4 + 4 + 4 ≤ 1200; omega
  · show s.1 + 4 + 4 + 4 + 4 ≤ 1200; omega
  rw [nI_l (by omega), nI_l (by omega)] at h3
  have h3 : eM I0 I3 (f_ps s (w_th 1937011827 (w_rows (du t) (c t)) 8)) := h3
  have key : ∀ (m i b : Nat) (w2 w5 : Option Value) (I4 : aj_I), m + i = c t → b ≤ i → (∀ j, b < j → j ≤ i → j < c t → ¬ w_bg (du t) j) → (b < c t → w_bg (du t) b) → (i = c t → b = c t) → eM I0 I4 (f_ps (f_ps s (w_th 1937011827 (w_rows (du t) (c t)) 8)) (w_sttsE (du t) (c t) b)) →
      J 37 [some (.ref 54), some (.int (nI t)), w2, some (.int (nI (i - b))), some (.int (nI i)), w5] [] Z I4 G (0, 0) := by
    intro m
    induction m with
    | zero =>
      intro i b w2 w5 I4 hi hbi hnb hb hend h4
      have ec : I4 55 (nI t).toNatClampNeg = nI (c t) := by rw [nI_clamp (by omega)]; exact ((h4.rl hr).2.2 t ht).1
      have hle : I4 55 (nI t).toNatClampNeg ≤ nI i := by rw [ec]; exact nI_le (by omega) (by omega)
      refine b_34_37 hJ (zk_54 hz) (zr_54_1 hz) (zk_55 hz) (vp_in_nI (by omega) (by decide)) (fun _ => hQ I4 ?_) (fun h => absurd hle h) (fun h => absurd hle h) (zr_54_2 hz) (zk_56 hz) (fun h => absurd hle h) (fun h => absurd hle h) (fun h => absurd hle h) (fun h => absurd hle h)
      unfold w_stts
      rw [f_ps_app]
      rw [hend (by omega)] at h4
      exact h4
    | succ m ih =>
      intro i b w2 w5 I4 hi hbi hnb hb hend h4
      have hc4 := (h4.rl hr).2.2 t ht
      have ec : I4 55 (nI t).toNatClampNeg = nI (c t) := by rw [nI_clamp (by omega)]; exact hc4.1
      have hnle : ¬ I4 55 (nI t).toNatClampNeg ≤ nI i := by rw [ec]; exact nI_ge (by omega) (by omega)
      have e1 : nI (c t) - 1 = nI (c t - 1) := by rw [show (1 : Int32) = nI 1 from rfl, pk_sub (by omega)]
      have ei : (16 : Int32) * nI t + nI i = nI (16 * t + i) := sm_16 t i
      have hnb' : ∀ j, b < j → j ≤ b + (i - b) → ¬ w_bg (du t) j := fun j a1 a2 => hnb j a1 (by omega) (by omega)
      have emit : ∀ (w2 w3 : Option Value), (i + 1 = c t ∨ w_bg (du t) (i + 1)) → aj_T (d + 2) 0 0 25 [.ref 54, .long (Int32.toInt64 (nI (i - b) + 1)), .int 4] Z I4 G (fun r Z1 I1 G1 => J 100 [some (.ref 54), some (.int (nI t)), w2, w3, some (.int (nI i)), some (.int (nI (16 * t + i)))] (r.toList ++ []) Z1 I1 G1 (0, 0)) := by
        intro w2 w3 hlast
        have hbb := hb (by omega)
        have hE := w_endrun (du := du t) (c := c t) (i - b) b hnb' (by omega) (by rw [show b + (i - b) + 1 = i + 1 by omega]; exact hlast)
        have hlen : w_len (du t) (c t) b = i - b + 1 := by unfold w_len; rw [hE]; omega
        have hdu : du t i = du t b := by have := w_const (du := du t) (b := b) (i - b) hnb'; rw [show b + (i - b) = i by omega] at this; exact this
        have hrun := w_sttsE_run (du := du t) (c := c t) (b := b) (i - b) hnb'
        rw [show b + (i - b) + 1 = i + 1 by omega, w_sttsE_y hbb, hlen] at hrun
        have hmono := w_rows_mono (du t) (i := b + 1) (c t - (b + 1))
        rw [show b + 1 + (c t - (b + 1)) = c t by omega, w_rows_y hbb] at hmono
        have hwd : (f_ps (f_ps s (w_th 1937011827 (w_rows (du t) (c t)) 8)) (w_sttsE (du t) (c t) b)).1 = s.1 + 16 + 8 * w_rows (du t) b := by rw [f_ps_1, f_ps_1, w_th_wd, w_sttsE_wd]
        rw [nI_1]
        refine M_add4 hz h4 (by omega) (fun I5 h5 => b_34_100 hJ (zk_54 hz) (zr_54_2 hz) (zk_56 hz) (vp_in_nI (by omega) (by decide)) ?_)
        have hc5 := (h5.rl hr).2.2 t ht
        rw [nI_clamp (show 16 * t + i < 2 ^ 31 by omega), (hc5.2.2 i (by omega)).1]
        refine M_add4 hz h5 ?_ (fun I6 h6 => b_34_113 hJ ?_)
        · show (f_ps (f_ps s (w_th 1937011827 (w_rows (du t) (c t)) 8)) (w_sttsE (du t) (c t) b)).1 + 4 + 4 ≤ 1200
          omega
        · rw [nI_1, show (0 : Int32) = nI (i + 1 - (i + 1)) by rw [Nat.sub_self]; rfl]
          refine ih (i + 1) (i + 1) _ _ I6 (by omega) (Nat.le_refl _) (fun j a1 a2 => absurd a1 (by omega)) (fun q => hlast.elim (fun z => absurd z (by omega)) id) id ?_
          rw [hrun, f_ps_app]
          rw [nI_l (show i - b + 1 < 2 ^ 31 by omega), nI_l (hc.2.2 i (by omega)).2.1, hdu] at h6
          exact h6
      refine b_34_37 hJ (zk_54 hz) (zr_54_1 hz) (zk_55 hz) (vp_in_nI (by omega) (by decide)) (fun h => absurd h hnle) (fun _ => vp_in_nI (by omega) (by decide)) (fun _ h => ?_) (zr_54_2 hz) (zk_56 hz) (fun _ h => ?_) (fun _ h => ?_) (fun _ h q => ?_) (fun _ h q => ?_)
      · rw [ec, e1] at h
        have h := (nI_eq (by omega) (by omega)).mp h
        rw [ei]
        exact emit _ _ (Or.inl (by omega))
      · rw [ec, e1] at h
        have h : i ≠ c t - 1 := fun z => h (by rw [z])
        rw [ei, nI_1]; exact vp_in_nI (by omega) (by decide)
      · rw [ei]; exact vp_in_nI (by omega) (by decide)
      · rw [ec, e1] at h
        have h : i ≠ c t - 1 := fun z => h (by rw [z])
        have q1 := hc4.2.2 (i + 1) (by omega)
        have q2 := hc4.2.2 i (by omega)
        rw [ei, nI_1, nI_clamp (by omega), nI_clamp (by omega), show 16 * t + i + 1 = 16 * t + (i + 1) by omega, q1.1, q2.1] at q
        have hd := (nI_eq q1.2.1 q2.2.1).mp q
        have hnb2 : ¬ w_bg (du t) (i + 1) := fun z => z.elim (fun z => absurd z (by omega)) (fun z => z hd)
        rw [nI_1, nI_1, show i - b + 1 = i + 1 - b by omega]
        refine ih (i + 1) b _ _ I4 (by omega) (by omega) (fun j a1 a2 a3 => ?_) hb (fun z => absurd z (by omega)) h4
        by_cases hj : j = i + 1
        · rw [hj]; exact hnb2
        · exact hnb j a1 (by omega) a3
      · rw [ec, e1] at h
        have h : i ≠ c t - 1 := fun z => h (by rw [z])
        have q1 := hc4.2.2 (i + 1) (by omega)
        have q2 := hc4.2.2 i (by omega)
        rw [ei, nI_1, nI_clamp (by omega), nI_clamp (by omega), show 16 * t + i + 1 = 16 * t + (i + 1) by omega, q1.1, q2.1] at q
        rw [ei]
        exact emit _ _ (Or.inr (Or.inr (fun z => q (by rw [z]; rfl))))
  exact key (c t) 0 0 _ _ I3 (by omega) (Nat.le_refl _) (fun j a1 a2 => absurd a1 (by omega)) (fun _ => Or.inl rfl) id h3
theorem M_writeTurns (hz : zAll Z) (hr : mR I0 G n c du si da) {t : Nat} (ht : t < n) (hp1 : 1 ≤ per) (hp2 : per ≤ 16) (he : eM I0 I s) (hfit : s.1 + (16 + 12 * w_trn (c t) per) ≤ 1200) (hQ : ∀ I' : aj_I, eM I0 I' (f_ps s (w_stsc (c t) per)) → Q none Z I' G) : aj_T (d + 3) mc ms 35 [.ref 54, .int (nI t), .int (nI per)] Z I G Q := by
  have hn := hr.2.1
  have hc := hr.2.2 t ht
  have h16 := hc.2.1
  have htl := w_trn_le (c t) per
  have hcl := w_chk_le (c := c t) (per := per) h16 hp1
  refine t_35 fun J hJ => b_35_0 hJ (zk_54 hz) (M_turnsOf hz (he.rl hr) ht hp1 hp2 (b_35_6 hJ (zk_54 hz) ?_))
  rw [show (16 : Int32) + 12 * nI (w_trn (c t) per) = nI (16 + w_trn (c t) per * 12) from m_th 12 _]
  refine M_head hz he (by omega) (fun I1 h1 => b_35_20 hJ (zk_54 hz) (M_add4 hz h1 ?_ (fun I2 h2 => b_35_26 hJ (zk_54 hz) (M_add4 hz h2 ?_ (fun I3 h3 => ?_)))))
  · show s.1 + 4 + 4 + 4 ≤ 1200; omega
  · show s.1 + 4 + 4 + 4 + 4 ≤ 1200; omega
  rw [nI_l (by omega), nI_l (by omega)] at h3
  have h3 : eM I0 I3 (f_ps s (w_th 1937011555 (w_trn (c t) per) 12)) := h3
  have l1 : (f_ps s (w_th 1937011555 (w_trn (c t) per) 12)).1 = s.1 + 16 := by rw [f_ps_1, w_th_wd]
  have hpos : 0 < w_trn (c t) per → 0 < c t := by
    intro h
    unfold w_trn at h
    split at h
    · omega
    · split at h
      · omega
      · omega
  have second : ∀ (I4 : aj_I) (s2 : Nat × (Nat → Nat)), s2 = f_ps (f_ps s (w_th 1937011555 (w_trn (c t) per) 12)) (if 0 < w_trn (c t) per then w_ste (c t) per 0 else []) → eM I0 I4 s2 → J 62 [some (.ref 54), some (.int (nI t)), some (.int (nI per)), some (.int (nI (w_trn (c t) per))), none] [] Z I4 G (0, 0) := by
    intro I4 s2 hs2 h4
    refine b_35_62 hJ (fun h => b_35_105 hJ (hQ I4 ?_)) (zk_54 hz) (fun h => ?_)
    · have hle : w_trn (c t) per ≤ 1 := (nI_leI (a := w_trn (c t) per) (b := 1) (by omega) (by decide)).mp h
      unfold w_stsc
      rw [f_ps_app, f_ps_app, ← hs2, if_neg (show ¬ 1 < w_trn (c t) per by omega)]
      exact h4
    · have hgt : 1 < w_trn (c t) per := Nat.not_le.mp (fun q => h (nI_le (a := w_trn (c t) per) (b := 1) q (by decide)))
      obtain ⟨hl1, hl2⟩ := w_last (c := c t) hp1 (hpos (by omega))
      have hlen : s2.1 = s.1 + 16 + 12 := by
        rw [hs2, f_ps_1, l1, if_pos (show 0 < w_trn (c t) per by omega)]
        rfl
      have hce := w_ce_le (c := c t) (per := per) (k := w_chk (c t) per - 1)
      refine M_chunksOf hz (h4.rl hr) ht hp1 hp2 (b_35_73 hJ (zk_54 hz) (M_add4 hz h4 (by omega) (fun I5 h5 => b_35_83 hJ (zk_54 hz) ?_)))
      rw [show (1 : Int32) = nI 1 from rfl, pk_sub hl2]
      refine M_chunkSize hz (h5.rl hr) ht hp1 hp2 (by omega) (b_35_94 hJ (zk_54 hz) (M_add4 hz h5 ?_ (fun I6 h6 => b_35_99 hJ (zk_54 hz) (M_add4 hz h6 ?_ (fun I7 h7 => b_35_105 hJ (hQ I7 ?_))))))
      · show s2.1 + 4 + 4 ≤ 1200; omega
      · show s2.1 + 4 + 4 + 4 ≤ 1200; omega
      · unfold w_stsc
        rw [f_ps_app, f_ps_app, ← hs2, if_pos hgt]
        rw [nI_l (by omega), nI_l (by omega)] at h7
        unfold w_ste
        rw [show w_chk (c t) per - 1 + 1 = w_chk (c t) per by omega]
        exact h7
  refine b_35_33 hJ (fun h => ?_) (zk_54 hz) (fun h => ?_)
  · have h0 : w_trn (c t) per ≤ 0 := (nI_leI (a := w_trn (c t) per) (b := 0) (by omega) (by decide)).mp h
    refine second I3 _ ?_ h3
    rw [if_neg (by omega)]
    rfl
  · have h0 : 0 < w_trn (c t) per := Nat.not_le.mp (fun q => h (nI_le (a := w_trn (c t) per) (b := 0) q (by decide)))
    have hce := w_ce_le (c := c t) (per := per) (k := 0)
    refine M_add4 hz h3 (by omega) (fun I4 h4 => b_35_43 hJ (zk_54 hz) (M_chunkSize (k := 0) hz (h4.rl hr) ht hp1 hp2 (by decide) (b_35_51 hJ (zk_54 hz) (M_add4 hz h4 ?_ (fun I5 h5 => b_35_56 hJ (zk_54 hz) (M_add4 hz h5 ?_ (fun I6 h6 => second I6 _ ?_ h6)))))))
    · show (f_ps s (w_th 1937011555 (w_trn (c t) per) 12)).1 + 4 + 4 ≤ 1200; omega
    · show (f_ps s (w_th 1937011555 (w_trn (c t) per) 12)).1 + 4 + 4 + 4 ≤ 1200; omega
    · rw [if_pos h0, nI_l (by omega)]
      rfl
theorem M_writeSizes (hz : zAll Z) (hr : mR I0 G n c du si da) {t : Nat} (ht : t < n) (he : eM I0 I s) (hfit : s.1 + (20 + 4 * c t) ≤ 1200) (hQ : ∀ I' : aj_I, eM I0 I' (f_ps s (w_stsz (c t) (si t))) → Q none Z I' G) : aj_T (d + 3) mc ms 36 [.ref 54, .int (nI t)] Z I G Q := by
  have hn := hr.2.1
  have hc := hr.2.2 t ht
  have h16 := hc.2.1
  have ec : ∀ {I1 : aj_I} {s1 : Nat × (Nat → Nat)}, eM I0 I1 s1 → I1 55 (nI t).toNatClampNeg = nI (c t) := fun h => by rw [nI_clamp (by omega)]; exact ((h.rl hr).2.2 t ht).1
  have hv : vp_in (nI t) 3 := vp_in_nI (by omega) (by decide)
  refine t_36 fun J hJ => b_36_0 hJ (zk_54 hz) (zr_54_1 hz) (zk_55 hz) hv ?_
  rw [ec he, show (20 : Int32) + 4 * nI (c t) = nI 20 + nI 4 * nI (c t) from rfl, pk_mul, nI_add]
  refine M_head hz he (by omega) (fun I1 h1 => b_36_17 hJ (zk_54 hz) (M_add (w := 8) hz h1 (by decide) ?_ (fun I2 h2 => b_36_24 hJ (zk_54 hz) (zr_54_1 hz) (zk_55 hz) hv ?_)))
  · show s.1 + 4 + 4 + 8 ≤ 1200; omega
  rw [f_put0] at h2
  rw [ec h2]
  refine M_add4 hz h2 ?_ (fun I3 h3 => b_36_36 hJ ?_)
  · show s.1 + 4 + 4 + 4 + 4 + 4 ≤ 1200; omega
  rw [nI_l (by omega), nI_l (by omega)] at h3
  have h3 : eM I0 I3 (f_ps s [p4 (lN (20 + 4 * c t)), p4 (Int32.toInt64 1937011578), p4 0, p4 0, p4 (lN (c t))]) := h3
  have key : ∀ (m i : Nat) (I5 : aj_I), m + i = c t → eM I0 I5 (f_ps (f_ps s [p4 (lN (20 + 4 * c t)), p4 (Int32.toInt64 1937011578), p4 0, p4 0, p4 (lN (c t))]) (w_szE (si t) i)) → J 38 [some (.ref 54), some (.int (nI t)), some (.int (nI i))] [] Z I5 G (0, 0) := by
    intro m
    induction m with
    | zero =>
      intro i I5 hi h5
      have hi : i = c t := by omega
      have hle : I5 55 (nI t).toNatClampNeg ≤ nI i := by rw [ec h5, hi]; exact nI_le (Nat.le_refl _) (by omega)
      refine b_36_38 hJ (zk_54 hz) (zr_54_1 hz) (zk_55 hz) hv (fun _ => hQ I5 ?_) (zr_54_3 hz) (zk_57 hz) (fun h => absurd hle h) (fun h => absurd hle h)
      unfold w_stsz
      rw [f_ps_app]
      rw [hi] at h5
      exact h5
    | succ m ih =>
      intro i I5 hi h5
      have ei : (16 : Int32) * nI t + nI i = nI (16 * t + i) := sm_16 t i
      have q := ((h5.rl hr).2.2 t ht).2.2 i (by omega)
      have hlen : (f_ps (f_ps s [p4 (lN (20 + 4 * c t)), p4 (Int32.toInt64 1937011578), p4 0, p4 0, p4 (lN (c t))]) (w_szE (si t) i)).1 = s.1 + 20 + 4 * i := by
        rw [f_ps_1, f_ps_1, w_szE_wd]
        rfl
      refine b_36_38 hJ (zk_54 hz) (zr_54_1 hz) (zk_55 hz) hv (fun h => ?_) (zr_54_3 hz) (zk_57 hz) (fun _ => ?_) (fun _ => ?_)
      · rw [ec h5] at h; exact absurd h (nI_ge (by omega) (by omega))
      · rw [ei]; exact vp_in_nI (by omega) (by decide)
      · rw [ei, nI_clamp (show 16 * t + i < 2 ^ 31 by omega), q.2.2.1, nI_l (by omega)]
        refine M_add4 hz h5 (by omega) (fun I6 h6 => b_36_65 hJ ?_)
        rw [nI_1]
        refine ih (i + 1) I6 (by omega) ?_
        show eM I0 I6 (f_ps _ (w_szE (si t) i ++ [p4 (lN (si t i))]))
        rw [f_ps_app]
        exact h6
  exact key (c t) 0 I3 rfl h3
theorem M_writePlaces (hz : zAll Z) (hr : mR I0 G n c du si da) {t : Nat} (ht : t < n) (hp1 : 1 ≤ per) (hp2 : per ≤ 16) {f : Nat} (hf : f + 384 * 17 < 2 ^ 31) (he : eM I0 I s) (hfit : s.1 + (16 + w_pw far * w_chk (c t) per) ≤ 1200) (hQ : ∀ I' : aj_I, eM I0 I' (f_ps s (w_plc (c t) per far (fun k => f + w_cn n c si per k + w_ct c si per k t))) → Q none Z I' G) : aj_T (d + 4) mc ms 37 [.ref 54, .int (nI t), .int (nI per), .int (if far then 1 else 0), .int (nI f)] Z I G Q := by
  have hn := hr.2.1
  have hc := hr.2.2 t ht
  have h16 := hc.2.1
  have hcl := w_chk_le (c := c t) (per := per) h16 hp1
  have hpw := w_pw_le far
  have hcp : w_pw far * w_chk (c t) per ≤ 8 * 16 := Nat.mul_le_mul hpw.2 (by omega)
  have hcc : ∀ t, t < n → c t ≤ 16 ∧ ∀ i, i < c t → si t i ≤ 8 := fun t ht => ⟨(hr.2.2 t ht).2.1, fun i hi => ((hr.2.2 t ht).2.2 i hi).2.2.2.1⟩
  refine t_37 fun J hJ => b_37_0 hJ (zk_54 hz) (M_chunksOf hz (he.rl hr) ht hp1 hp2 ?_)
  have rest : ∀ (w3 w7 : Option Value) (I1 : aj_I), eM I0 I1 (f_ps s [p4 (nI (16 + w_chk (c t) per * w_pw far)).toInt64, p4 (Int32.toInt64 (if far then 1668232756 else 1937007471))]) → J 43 [some (.ref 54), some (.int (nI t)), some (.int (nI per)), w3, some (.int (nI f)), some (.int (nI (w_chk (c t) per))), some (.int (nI (w_pw far))), w7] [] Z I1 G (0, 0) := by
    intro w3 w7 I1 h1
    have hmc := Nat.mul_comm (w_pw far) (w_chk (c t) per)
    refine b_37_43 hJ (zk_54 hz) (M_add4 hz h1 ?_ (fun I2 h2 => b_37_49 hJ (zk_54 hz) (M_add4 hz h2 ?_ (fun I3 h3 => b_37_57 hJ ?_))))
    · show s.1 + 4 + 4 + 4 ≤ 1200; omega
    · show s.1 + 4 + 4 + 4 + 4 ≤ 1200; omega
    rw [nI_l (by omega), nI_l (by omega)] at h3
    have h3 : eM I0 I3 (f_ps s (w_th (if far then 1668232756 else 1937007471) (w_chk (c t) per) (w_pw far))) := h3
    have key : ∀ (m k : Nat) (I4 : aj_I), m + k = w_chk (c t) per → eM I0 I4 (f_ps (f_ps s (w_th (if far then 1668232756 else 1937007471) (w_chk (c t) per) (w_pw far))) (w_plE (fun k => f + w_cn n c si per k + w_ct c si per k t) (w_pw far) k)) → J 60 [some (.ref 54), some (.int (nI t)), some (.int (nI per)), w3, some (.int (nI f)), some (.int (nI (w_chk (c t) per))), some (.int (nI (w_pw far))), some (.int (nI k))] [] Z I4 G (0, 0) := by
      intro m
      induction m with
      | zero =>
        intro k I4 hk h4
        have hk : k = w_chk (c t) per := by omega
        refine b_37_60 hJ (fun _ => hQ I4 ?_) (zk_54 hz) (fun h => absurd (nI_le (by omega) (by omega)) h)
        unfold w_plc
        rw [f_ps_app]
        rw [hk] at h4
        exact h4
      | succ m ih =>
        intro k I4 hk h4
        have hlen : (f_ps (f_ps s (w_th (if far then 1668232756 else 1937007471) (w_chk (c t) per) (w_pw far))) (w_plE (fun k => f + w_cn n c si per k + w_ct c si per k t) (w_pw far) k)).1 = s.1 + 16 + w_pw far * k := by rw [f_ps_1, f_ps_1, w_th_wd, w_plE_wd]
        have hmul : w_pw far * (k + 1) ≤ w_pw far * w_chk (c t) per := Nat.mul_le_mul_left _ (by omega)
        rw [Nat.mul_add, Nat.mul_one] at hmul
        have b1 := w_cn_le (per := per) hn hcc k
        have b2 := w_ct_le (per := per) (k := k) hcc t (by omega)
        refine b_37_60 hJ (fun h => absurd h (nI_ge (by omega) (by omega))) (zk_54 hz) (fun _ => M_bytesBefore hz (h4.rl hr) ht hp1 hp2 (by omega) (b_37_78 hJ (zk_54 hz) ?_))
        rw [nI_add, nI_l (by omega), ← Nat.add_assoc]
        refine M_add hz h4 hpw.2 (by omega) (fun I5 h5 => b_37_85 hJ ?_)
        rw [nI_1]
        refine ih (k + 1) I5 (by omega) ?_
        show eM I0 I5 (f_ps _ (w_plE (fun k => f + w_cn n c si per k + w_ct c si per k t) (w_pw far) k ++ [(lN (f + w_cn n c si per k + w_ct c si per k t), w_pw far)]))
        rw [f_ps_app]
        exact h5
    exact key (w_chk (c t) per) 0 I3 rfl h3
  cases far
  · refine b_37_6 hJ (fun _ => b_37_18 hJ (zk_54 hz) (fun _ => ?_) (fun h => absurd rfl h)) (fun h => absurd rfl h)
    rw [show (16 : Int32) + 4 * nI (w_chk (c t) per) = nI (16 + w_chk (c t) per * 4) from m_th 4 _]
    exact M_head hz he (by omega) (fun I1 h1 => rest _ _ I1 h1)
  · refine b_37_6 hJ (fun h => absurd h (by decide)) (fun _ => b_37_18 hJ (zk_54 hz) (fun h => absurd h (by decide)) (fun _ => ?_))
    rw [show (16 : Int32) + 8 * nI (w_chk (c t) per) = nI (16 + w_chk (c t) per * 8) from m_th 8 _]
    exact M_head hz he (by omega) (fun I1 h1 => rest _ _ I1 h1)
end MX
