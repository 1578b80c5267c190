/-! the reference's write: counts -/
def eM (I0 I : aj_I) (s : Nat × (Nat → Nat)) : Prop := (∀ a, a ≠ 54 → a ≠ 59 → I a = I0 a) ∧ (∀ k, k ≠ 5 → I 54 k = I0 54 k) ∧ mF I s.1 s.2
theorem w_d1a : ∀ c, c < 17 → ∀ per, per < 17 → (1 ≤ per ∧ 2 ≤ w_chk c per ∧ per ≤ w_ce c per (w_chk c per - 1) - (w_chk c per - 1) * per) → w_trn c per = 1 := by decide +kernel
theorem w_d1b : ∀ c, c < 17 → ∀ per, per < 17 → (1 ≤ per ∧ 2 ≤ w_chk c per ∧ ¬ per ≤ w_ce c per (w_chk c per - 1) - (w_chk c per - 1) * per) → w_trn c per = 2 := by decide +kernel
theorem w_d1c : ∀ c, c < 17 → ∀ per, per < 17 → (1 ≤ per ∧ ¬ 2 ≤ w_chk c per) → w_trn c per = w_chk c per := by decide +kernel
section MW
variable {Z : aj_Z} {I0 I : aj_I} {G : aj_G} {Q : aj_Q} {s : Nat × (Nat → Nat)} {n : Nat} {c : Nat → Nat} {du si : Nat → Nat → Nat} {da : Nat → Nat → Int64} {per : Nat} {far wide : Bool} {d mc ms : Nat}
theorem eM.rl (h : eM I0 I s) (hr : mR I0 G n c du si da) : mR I G n c du si da := by
  unfold mR at hr ⊢
  rw [h.2.1 0 (by decide), h.1 55 (by decide) (by decide), h.1 56 (by decide) (by decide), h.1 57 (by decide) (by decide)]
  exact hr
theorem M_add (hz : zAll Z) (he : eM I0 I s) {v : Int64} {w : Nat} (hw : w ≤ 8) (hfit : s.1 + w ≤ 1200) (hQ : ∀ I' : aj_I, eM I0 I' (f_put s (v, w)) → Q none Z I' G) : aj_T (d + 1) mc ms 25 [.ref 54, .long v, .int (nI w)] Z I G Q :=
  M_put hz he.2.2 hw hfit (fun I' h1 h2 h3 => hQ I' ⟨fun a a1 a2 => (h1 a a1 a2).trans (he.1 a a1 a2), fun k hk => (h2 k hk).trans (he.2.1 k hk), h3⟩)
theorem M_add4 (hz : zAll Z) (he : eM I0 I s) {v : Int64} (hfit : s.1 + 4 ≤ 1200) (hQ : ∀ I' : aj_I, eM I0 I' (f_put s (p4 v)) → Q none Z I' G) : aj_T (d + 1) mc ms 25 [.ref 54, .long v, .int 4] Z I G Q :=
  M_add (w := 4) hz he (by decide) hfit hQ
theorem M_head (hz : zAll Z) (he : eM I0 I s) {x y : Int32} (hfit : s.1 + 8 ≤ 1200) (hQ : ∀ I' : aj_I, eM I0 I' (f_ps s [p4 x.toInt64, p4 y.toInt64]) → Q none Z I' G) : aj_T (d + 2) mc ms 26 [.ref 54, .int x, .int y] Z I G Q :=
  t_26 fun J hJ => b_26_0 hJ (zk_54 hz) (M_add4 hz he (by omega) (fun I1 h1 => b_26_7 hJ (zk_54 hz) (M_add4 hz h1 (by show s.1 + 4 + 4 ≤ 1200; omega) (fun I2 h2 => b_26_14 hJ (hQ I2 h2)))))
theorem M_chunksOf (hz : zAll Z) (hr : mR I G n c du si da) {t : Nat} (ht : t < n) (hp1 : 1 ≤ per) (hp2 : per ≤ 16) (hQ : Q (some (.int (nI (w_chk (c t) per)))) Z I G) : aj_T (d + 1) mc ms 27 [.ref 54, .int (nI t), .int (nI per)] Z I G Q := by
  have hn := hr.2.1
  have hc := hr.2.2 t ht
  have h16 := hc.2.1
  refine t_27 fun J hJ => b_27_0 hJ (zk_54 hz) (zr_54_1 hz) (zk_55 hz) (vp_in_nI (by omega) (by decide)) (nI_ne0 (by omega) (by omega)) ?_
  rw [nI_clamp (by omega), hc.1, nI_add, show (1 : Int32) = nI 1 from rfl, pk_sub (by omega), pk_div (by omega) (by omega) (by omega)]
  exact hQ
theorem M_chunkSize (hz : zAll Z) (hr : mR I G n c du si da) {t : Nat} (ht : t < n) (hp1 : 1 ≤ per) (hp2 : per ≤ 16) {k : Nat} (hk : k ≤ 16) (hQ : Q (some (.int (nI (w_ce (c t) per k - k * per)))) Z I G) : aj_T (d + 1) mc ms 28 [.ref 54, .int (nI t), .int (nI per), .int (nI k)] Z I G Q := by
  have hn := hr.2.1
  have hc := hr.2.2 t ht
  have h16 := hc.2.1
  have hkp : k * per ≤ 16 * 16 := Nat.mul_le_mul hk hp2
  have e1 : (k + 1) * per = k * per + per := by rw [Nat.add_mul, Nat.one_mul]
  have e : I 55 (nI t).toNatClampNeg - nI k * nI per = nI (c t) - nI (k * per) := by rw [nI_clamp (by omega), hc.1, pk_mul]
  have ei : (nI (c t) - nI (k * per)).toInt = (c t : Int) - (k * per : Nat) := pk_sub_toInt (by omega) (by omega)
  have h00 : (0 : Int32).toInt = 0 := rfl
  unfold w_ce at hQ
  refine t_28 fun J hJ => b_28_0 hJ (zk_54 hz) (zr_54_1 hz) (zk_55 hz) (vp_in_nI (by omega) (by decide)) (fun a1 a2 => ?_) (fun a1 a2 => ?_) (fun a1 => ?_)
  · rw [e, Int32.le_iff_toInt_le, ei, h00] at a1
    rw [e, pk_sub (by omega)] at a2
    have a2 := (nI_leI (by omega) (by omega)).mp a2
    have : (if (k + 1) * per < c t then (k + 1) * per else c t) - k * per = per := by split <;> omega
    rw [this] at hQ
    exact hQ
  · rw [e, Int32.le_iff_toInt_le, ei, h00] at a1
    rw [e, pk_sub (by omega)] at a2 ⊢
    have a2 : ¬ per ≤ c t - k * per := fun q => a2 (nI_le q (by omega))
    have : (if (k + 1) * per < c t then (k + 1) * per else c t) - k * per = c t - k * per := by split <;> omega
    rw [this] at hQ
    exact hQ
  · rw [e, Int32.le_iff_toInt_le, ei, h00] at a1
    have : (if (k + 1) * per < c t then (k + 1) * per else c t) - k * per = 0 := by split <;> omega
    rw [this] at hQ
    exact hQ
theorem M_rowsOf (hz : zAll Z) (hr : mR I G n c du si da) {t : Nat} (ht : t < n) (hQ : Q (some (.int (nI (w_rows (du t) (c t))))) Z I G) : aj_T (d + 1) mc ms 29 [.ref 54, .int (nI t)] Z I G Q := by
  have hn := hr.2.1
  have hc := hr.2.2 t ht
  have h16 := hc.2.1
  have ec : I 55 (nI t).toNatClampNeg = nI (c t) := by rw [nI_clamp (by omega)]; exact hc.1
  refine t_29 fun J hJ => b_29_0 hJ ?_
  have key : ∀ (m i : Nat), m + i = c t → J 4 [some (.ref 54), some (.int (nI t)), some (.int (nI (w_rows (du t) i))), some (.int (nI i))] [] Z I G (0, 0) := by
    intro m
    induction m with
    | zero =>
      intro i hi
      have hi : i = c t := by omega
      have hle : I 55 (nI t).toNatClampNeg ≤ nI i := by rw [ec, hi]; exact nI_le (Nat.le_refl _) (by omega)
      refine b_29_4 hJ (zk_54 hz) (zr_54_1 hz) (zk_55 hz) (vp_in_nI (by omega) (by decide)) (fun _ => ?_) (fun h => absurd hle h) (zr_54_2 hz) (zk_56 hz) (fun h => absurd hle h) (fun h => absurd hle h) (fun h => absurd hle h) (fun h => absurd hle h)
      rw [hi]; exact hQ
    | succ m ih =>
      intro i hi
      have hnle : ¬ I 55 (nI t).toNatClampNeg ≤ nI i := by rw [ec]; exact nI_ge (by omega) (by omega)
      have ei : (16 : Int32) * nI t + nI i = nI (16 * t + i) := sm_16 t i
      have step : w_bg (du t) i → J 45 [some (.ref 54), some (.int (nI t)), some (.int (nI (w_rows (du t) i))), some (.int (nI i))] [] Z I G (0, 0) := by
        intro hb
        refine b_29_45 hJ ?_
        rw [nI_1, nI_1, ← w_rows_y hb]
        exact ih (i + 1) (by omega)
      have em : i ≠ 0 → nI (16 * t + i) - 1 = nI (16 * t + (i - 1)) := by
        intro hi0
        rw [show (1 : Int32) = nI 1 from rfl, pk_sub (by omega), show 16 * t + i - 1 = 16 * t + (i - 1) by omega]
      refine b_29_4 hJ (zk_54 hz) (zr_54_1 hz) (zk_55 hz) (vp_in_nI (by omega) (by decide)) (fun h => absurd h hnle) (fun _ h0 => step (Or.inl ((nI_eq (a := i) (b := 0) (by omega) (by decide)).mp h0))) (zr_54_2 hz) (zk_56 hz) (fun _ _ => ?_) (fun _ h0 => ?_) (fun _ h0 h => ?_) (fun _ h0 h => ?_)
      · rw [ei]; exact vp_in_nI (by omega) (by decide)
      · rw [ei, em (fun q => h0 (by rw [q]; rfl))]; exact vp_in_nI (by omega) (by decide)
      · have hi0 : i ≠ 0 := fun q => h0 (by rw [q]; rfl)
        have q1 := hc.2.2 i (by omega)
        have q2 := hc.2.2 (i - 1) (by omega)
        rw [ei, em hi0, nI_clamp (by omega), nI_clamp (by omega), q1.1, q2.1] at h
        have hd := (nI_eq q1.2.1 q2.2.1).mp h
        have hnb : ¬ w_bg (du t) i := fun z => z.elim hi0 (fun z => z hd)
        rw [nI_1, ← w_rows_n hnb]
        exact ih (i + 1) (by omega)
      · have hi0 : i ≠ 0 := fun q => h0 (by rw [q]; rfl)
        have q1 := hc.2.2 i (by omega)
        have q2 := hc.2.2 (i - 1) (by omega)
        rw [ei, em hi0, nI_clamp (by omega), nI_clamp (by omega), q1.1, q2.1] at h
        exact step (Or.inr (fun z => h (by rw [z])))
  exact key (c t) 0 rfl
theorem M_turnsOf (hz : zAll Z) (hr : mR I G n c du si da) {t : Nat} (ht : t < n) (hp1 : 1 ≤ per) (hp2 : per ≤ 16) (hQ : Q (some (.int (nI (w_trn (c t) per)))) Z I G) : aj_T (d + 2) mc ms 30 [.ref 54, .int (nI t), .int (nI per)] Z I G Q := by
  have hc := hr.2.2 t ht
  have h16 := hc.2.1
  have hcl := w_chk_le (c := c t) (per := per) h16 hp1
  have hce := w_ce_le (c := c t) (per := per) (k := w_chk (c t) per - 1)
  refine t_30 fun J hJ => b_30_0 hJ (zk_54 hz) (M_chunksOf hz hr ht hp1 hp2 (b_30_6 hJ (zk_54 hz) (fun h => ?_) (fun h => ?_)))
  · have h := (nI_leI (a := 2) (by decide) (by omega)).mp h
    rw [show (1 : Int32) = nI 1 from rfl, pk_sub (by omega)]
    refine M_chunkSize hz hr ht hp1 hp2 (by omega) (b_30_25 hJ (fun q => ?_) (fun q => ?_))
    · rw [w_d1a (c t) (by omega) per (by omega) ⟨hp1, h, (nI_leI (by omega) (by omega)).mp q⟩] at hQ
      exact hQ
    · rw [w_d1b (c t) (by omega) per (by omega) ⟨hp1, h, fun z => q (nI_le z (by omega))⟩] at hQ
      exact hQ
  · rw [w_d1c (c t) (by omega) per (by omega) ⟨hp1, fun z => h (nI_le (a := 2) z (by omega))⟩] at hQ
    exact hQ
theorem M_stblSize (hz : zAll Z) (hr : mR I G n c du si da) {t : Nat} (ht : t < n) (hp1 : 1 ≤ per) (hp2 : per ≤ 16) (hQ : Q (some (.int (nI (w_stbl (c t) (du t) per (w_pw far))))) Z I G) : aj_T (d + 3) mc ms 31 [.ref 54, .int (nI t), .int (nI per), .int (if far then 1 else 0)] Z I G Q := by
  have hn := hr.2.1
  have hc := hr.2.2 t ht
  have ec : I 55 (nI t).toNatClampNeg = nI (c t) := by rw [nI_clamp (by omega)]; exact hc.1
  refine t_31 fun J hJ => b_31_0 hJ (zk_54 hz) (M_rowsOf hz hr ht (b_31_9 hJ (zk_54 hz) (M_turnsOf hz hr ht hp1 hp2 (b_31_22 hJ (zk_54 hz) (zr_54_1 hz) (zk_55 hz) (vp_in_nI (by omega) (by decide)) (fun q => M_chunksOf hz hr ht hp1 hp2 (b_31_55 hJ ?_)) (fun q => M_chunksOf hz hr ht hp1 hp2 (b_31_55 hJ ?_))))))
  · cases far
    · rw [ec, show (24 : Int32) + 8 * nI (w_rows (du t) (c t)) + 16 + 12 * nI (w_trn (c t) per) + 20 + 4 * nI (c t) + 16 + 4 * nI (w_chk (c t) per) = nI 24 + nI 8 * nI (w_rows (du t) (c t)) + nI 16 + nI 12 * nI (w_trn (c t) per) + nI 20 + nI 4 * nI (c t) + nI 16 + nI 4 * nI (w_chk (c t) per) from rfl, pk_mul, pk_mul, pk_mul, pk_mul, nI_add, nI_add, nI_add, nI_add, nI_add, nI_add, nI_add]
      have e : 24 + 8 * w_rows (du t) (c t) + 16 + 12 * w_trn (c t) per + 20 + 4 * c t + 16 + 4 * w_chk (c t) per = w_stbl (c t) (du t) per (w_pw false) := by unfold w_stbl; show _ = _ + 4 * w_chk (c t) per; omega
      rw [e]; exact hQ
    · exact absurd q (by decide)
  · cases far
    · exact absurd rfl q
    · rw [ec, show (24 : Int32) + 8 * nI (w_rows (du t) (c t)) + 16 + 12 * nI (w_trn (c t) per) + 20 + 4 * nI (c t) + 16 + 8 * nI (w_chk (c t) per) = nI 24 + nI 8 * nI (w_rows (du t) (c t)) + nI 16 + nI 12 * nI (w_trn (c t) per) + nI 20 + nI 4 * nI (c t) + nI 16 + nI 8 * nI (w_chk (c t) per) from rfl, pk_mul, pk_mul, pk_mul, pk_mul, nI_add, nI_add, nI_add, nI_add, nI_add, nI_add, nI_add]
      have e : 24 + 8 * w_rows (du t) (c t) + 16 + 12 * w_trn (c t) per + 20 + 4 * c t + 16 + 8 * w_chk (c t) per = w_stbl (c t) (du t) per (w_pw true) := by unfold w_stbl; show _ = _ + 8 * w_chk (c t) per; omega
      rw [e]; exact hQ
theorem M_bytesOf (hz : zAll Z) (hr : mR I G n c du si da) {t : Nat} (ht : t < n) (hp1 : 1 ≤ per) (hp2 : per ≤ 16) {k : Nat} (hk : k ≤ 16) (hQ : Q (some (.int (nI (w_ck (c t) (si t) per k)))) Z I G) : aj_T (d + 2) mc ms 32 [.ref 54, .int (nI t), .int (nI per), .int (nI k)] Z I G Q := by
  have hn := hr.2.1
  have hc := hr.2.2 t ht
  have h16 := hc.2.1
  have hce := w_ce_le (c := c t) (per := per) (k := k)
  refine t_32 fun J hJ => b_32_0 hJ ?_
  have key : ∀ (m j : Nat), m + j = w_ce (c t) per k - k * per → J 6 [some (.ref 54), some (.int (nI t)), some (.int (nI per)), some (.int (nI k)), some (.int (nI (w_cb (si t) (k * per) j))), some (.int (nI j))] [] Z I G (0, 0) := by
    intro m
    induction m with
    | zero =>
      intro j hj
      have hj : j = w_ce (c t) per k - k * per := by omega
      refine b_32_6 hJ (zk_54 hz) (M_chunkSize hz hr ht hp1 hp2 hk (b_32_15 hJ (fun _ => ?_) (zk_54 hz) (zr_54_3 hz) (zk_57 hz) (fun h => absurd (nI_le (by omega) (by omega)) h) (fun h => absurd (nI_le (by omega) (by omega)) h)))
      rw [hj]; exact hQ
    | succ m ih =>
      intro j hj
      have ei : (16 : Int32) * nI t + nI k * nI per + nI j = nI (16 * t + (k * per + j)) := by rw [pk_mul, sm_16, nI_add, Nat.add_assoc]
      refine b_32_6 hJ (zk_54 hz) (M_chunkSize hz hr ht hp1 hp2 hk (b_32_15 hJ (fun h => absurd h (nI_ge (by omega) (by omega))) (zk_54 hz) (zr_54_3 hz) (zk_57 hz) (fun _ => ?_) (fun _ => ?_)))
      · rw [ei]; exact vp_in_nI (by omega) (by decide)
      · rw [ei, nI_clamp (by omega), (hc.2.2 (k * per + j) (by omega)).2.2.1, nI_add, nI_1]
        exact ih (j + 1) (by omega)
  exact key (w_ce (c t) per k - k * per) 0 rfl
theorem M_bytesBefore (hz : zAll Z) (hr : mR I G n c du si da) {t : Nat} (ht : t < n) (hp1 : 1 ≤ per) (hp2 : per ≤ 16) {k : Nat} (hk : k < 16) (hQ : Q (some (.int (nI (w_cn n c si per k + w_ct c si per k t)))) Z I G) : aj_T (d + 3) mc ms 33 [.ref 54, .int (nI t), .int (nI per), .int (nI k)] Z I G Q := by
  have hn := hr.2.1
  refine t_33 fun J hJ => b_33_0 hJ ?_
  have last : ∀ (m u : Nat), m + u = n → J 15 [some (.ref 54), some (.int (nI t)), some (.int (nI per)), some (.int (nI k)), some (.int (nI (w_cn n c si per k + w_ct c si per k (if u < t then u else t)))), some (.int (nI k)), some (.int (nI u))] [] Z I G (0, 0) := by
    intro m
    induction m with
    | zero =>
      intro u hu
      have hu : u = n := by omega
      rw [if_neg (by omega)]
      refine b_33_15 hJ (zk_54 hz) (fun _ => ?_) (fun h => ?_) (fun h => ?_) (fun h => ?_)
      · rw [nI_1]
        exact b_33_6 hJ (fun _ => hQ) (fun h => absurd (nI_lt (by omega) (by omega)) h)
      · rw [hr.1, hu] at h; exact absurd (nI_le (Nat.le_refl _) (by omega)) h
      · rw [hr.1, hu] at h; exact absurd (nI_le (Nat.le_refl _) (by omega)) h
      · rw [hr.1, hu] at h; exact absurd (nI_le (Nat.le_refl _) (by omega)) h
    | succ m ih =>
      intro u hu
      refine b_33_15 hJ (zk_54 hz) (fun h => ?_) (fun _ h => ?_) (fun _ _ h => ?_) (fun _ _ h => ?_)
      · rw [hr.1] at h; exact absurd h (nI_ge (by omega) (by omega))
      · exact absurd ((nI_ltI (by omega) (by omega)).mp h) (Nat.lt_irrefl _)
      · have h := (nI_leI (by omega) (by omega)).mp h
        have := ih (u + 1) (by omega)
        rw [if_neg (by omega)] at this
        rw [if_neg (by omega), nI_1]
        exact this
      · have h : u < t := Nat.not_le.mp (fun q => h (nI_le q (by omega)))
        rw [if_pos h]
        refine M_bytesOf hz hr (by omega) hp1 hp2 (by omega) (b_33_47 hJ ?_)
        have := ih (u + 1) (by omega)
        rw [show (if u + 1 < t then u + 1 else t) = u + 1 by split <;> omega] at this
        rw [nI_add, nI_1, Nat.add_assoc]
        exact this
  have inner : ∀ (j : Nat), j < k → (∀ w6, J 6 [some (.ref 54), some (.int (nI t)), some (.int (nI per)), some (.int (nI k)), some (.int (nI (w_cn n c si per (j + 1)))), some (.int (nI (j + 1))), w6] [] Z I G (0, 0)) → ∀ (m u : Nat), m + u = n → J 15 [some (.ref 54), some (.int (nI t)), some (.int (nI per)), some (.int (nI k)), some (.int (nI (w_cn n c si per j + w_ct c si per j u))), some (.int (nI j)), some (.int (nI u))] [] Z I G (0, 0) := by
    intro j hj hnext m
    induction m with
    | zero =>
      intro u hu
      have hu : u = n := by omega
      subst hu
      refine b_33_15 hJ (zk_54 hz) (fun _ => ?_) (fun h => ?_) (fun h => ?_) (fun h => ?_)
      · rw [nI_1]; exact hnext _
      · rw [hr.1] at h; exact absurd (nI_le (Nat.le_refl _) (by omega)) h
      · rw [hr.1] at h; exact absurd (nI_le (Nat.le_refl _) (by omega)) h
      · rw [hr.1] at h; exact absurd (nI_le (Nat.le_refl _) (by omega)) h
    | succ m ih =>
      intro u hu
      refine b_33_15 hJ (zk_54 hz) (fun h => ?_) (fun _ h => ?_) (fun _ h => ?_) (fun _ h => ?_)
      · rw [hr.1] at h; exact absurd h (nI_ge (by omega) (by omega))
      · refine M_bytesOf hz hr (by omega) hp1 hp2 (by omega) (b_33_47 hJ ?_)
        have := ih (u + 1) (by omega)
        rw [nI_add, nI_1, Nat.add_assoc]
        exact this
      · exact absurd (nI_lt hj (by omega)) h
      · exact absurd (nI_lt hj (by omega)) h
  have outer : ∀ (m j : Nat) (w6 : Option Value), m + j = k → J 6 [some (.ref 54), some (.int (nI t)), some (.int (nI per)), some (.int (nI k)), some (.int (nI (w_cn n c si per j))), some (.int (nI j)), w6] [] Z I G (0, 0) := by
    intro m
    induction m with
    | zero =>
      intro j w6 hj
      have hj : j = k := by omega
      subst hj
      refine b_33_6 hJ (fun h => absurd ((nI_ltI (by omega) (by omega)).mp h) (Nat.lt_irrefl _)) (fun _ => ?_)
      have := last n 0 (by omega)
      rw [show (if 0 < t then 0 else t) = 0 by split <;> omega] at this
      exact this
    | succ m ih =>
      intro j w6 hj
      exact b_33_6 hJ (fun h => absurd ((nI_ltI (by omega) (by omega)).mp h) (by omega)) (fun _ => inner j (by omega) (fun w => ih (j + 1) w (by omega)) n 0 (by omega))
  exact outer k 0 _ (by omega)
theorem M_allBytes (hz : zAll Z) (hr : mR I G n c du si da) {a : Nat → Nat} (ha0 : a 0 = 0) (ha : ∀ t, t < n → a (t + 1) = a t + w_cb (si t) 0 (c t)) (hQ : Q (some (.int (nI (a n)))) Z I G) : aj_T (d + 1) mc ms 38 [.ref 54] Z I G Q := by
  have hn := hr.2.1
  refine t_38 fun J hJ => b_38_0 hJ ?_
  have inner : ∀ (t : Nat), t < n → (∀ w3, J 4 [some (.ref 54), some (.int (nI (a (t + 1)))), some (.int (nI (t + 1))), w3] [] Z I G (0, 0)) → ∀ (m j : Nat), m + j = c t → J 14 [some (.ref 54), some (.int (nI (a t + w_cb (si t) 0 j))), some (.int (nI t)), some (.int (nI j))] [] Z I G (0, 0) := by
    intro t ht hnext m
    have hc := hr.2.2 t ht
    have h16 := hc.2.1
    have ec : I 55 (nI t).toNatClampNeg = nI (c t) := by rw [nI_clamp (by omega)]; exact hc.1
    induction m with
    | zero =>
      intro j hj
      have hj : j = c t := by omega
      have hle : I 55 (nI t).toNatClampNeg ≤ nI j := by rw [ec, hj]; exact nI_le (Nat.le_refl _) (by omega)
      refine b_38_14 hJ (zk_54 hz) (zr_54_1 hz) (zk_55 hz) (vp_in_nI (by omega) (by decide)) (fun _ => ?_) (zr_54_3 hz) (zk_57 hz) (fun h => absurd hle h) (fun h => absurd hle h)
      rw [nI_1, hj, ← ha t ht]
      exact hnext _
    | succ m ih =>
      intro j hj
      have ei : (16 : Int32) * nI t + nI j = nI (16 * t + j) := sm_16 t j
      refine b_38_14 hJ (zk_54 hz) (zr_54_1 hz) (zk_55 hz) (vp_in_nI (by omega) (by decide)) (fun h => ?_) (zr_54_3 hz) (zk_57 hz) (fun _ => ?_) (fun _ => ?_)
      · rw [ec] at h; exact absurd h (nI_ge (by omega) (by omega))
      · rw [ei]; exact vp_in_nI (by omega) (by decide)
      · rw [ei, nI_clamp (by omega), (hc.2.2 j (by omega)).2.2.1, nI_add, nI_1]
        have := ih (j + 1) (by omega)
        rw [show w_cb (si t) 0 (j + 1) = w_cb (si t) 0 j + si t (0 + j) from rfl, Nat.zero_add, ← Nat.add_assoc] at this
        exact this
  have outer : ∀ (m t : Nat) (w3 : Option Value), m + t = n → J 4 [some (.ref 54), some (.int (nI (a t))), some (.int (nI t)), w3] [] Z I G (0, 0) := by
    intro m
    induction m with
    | zero =>
      intro t w3 ht
      have ht : t = n := by omega
      subst ht
      refine b_38_4 hJ (zk_54 hz) (fun _ => hQ) (fun h => ?_)
      rw [hr.1] at h; exact absurd (nI_le (Nat.le_refl _) (by omega)) h
    | succ m ih =>
      intro t w3 ht
      refine b_38_4 hJ (zk_54 hz) (fun h => ?_) (fun _ => inner t (by omega) (fun w => ih (t + 1) w (by omega)) (c t) 0 rfl)
      rw [hr.1] at h; exact absurd h (nI_ge (by omega) (by omega))
  have := outer n 0 none rfl
  rw [ha0] at this
  exact this
end MW
