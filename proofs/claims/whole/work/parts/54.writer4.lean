/-! Writer: the boxes, the media, the whole -/
def w_smp (v : Int64) : Nat → List (Int64 × Nat)
  | 0 => []
  | k + 1 => w_smp v k ++ [(lN (fn_by v k), 1)]
theorem w_smp_wd (v : Int64) : ∀ k, f_wd (w_smp v k) = k
  | 0 => rfl
  | k + 1 => by
    show f_wd (w_smp v k ++ [(lN (fn_by v k), 1)]) = _
    rw [f_wd_app, w_smp_wd v k]
    rfl
def w_chL (si : Nat → Nat) (da : Nat → Int64) (i : Nat) : Nat → List (Int64 × Nat)
  | 0 => []
  | m + 1 => w_chL si da i m ++ w_smp (da (i + m)) (si (i + m))
theorem w_chL_wd (si : Nat → Nat) (da : Nat → Int64) (i : Nat) : ∀ m, f_wd (w_chL si da i m) = w_cb si i m
  | 0 => rfl
  | m + 1 => by
    show f_wd (w_chL si da i m ++ w_smp (da (i + m)) (si (i + m))) = _
    rw [f_wd_app, w_chL_wd si da i m, w_smp_wd]
    rfl
def w_ckL (c : Nat) (si : Nat → Nat) (da : Nat → Int64) (per k : Nat) : List (Int64 × Nat) := w_chL si da (k * per) (w_ce c per k - k * per)
theorem w_ckL_wd (c : Nat) (si : Nat → Nat) (da : Nat → Int64) (per k : Nat) : f_wd (w_ckL c si da per k) = w_ck c si per k := w_chL_wd _ _ _ _
def w_ctL (c : Nat → Nat) (si : Nat → Nat → Nat) (da : Nat → Nat → Int64) (per k : Nat) : Nat → List (Int64 × Nat)
  | 0 => []
  | t + 1 => w_ctL c si da per k t ++ w_ckL (c t) (si t) (da t) per k
theorem w_ctL_wd (c : Nat → Nat) (si : Nat → Nat → Nat) (da : Nat → Nat → Int64) (per k : Nat) : ∀ t, f_wd (w_ctL c si da per k t) = w_ct c si per k t
  | 0 => rfl
  | t + 1 => by
    show f_wd (w_ctL c si da per k t ++ w_ckL (c t) (si t) (da t) per k) = _
    rw [f_wd_app, w_ctL_wd c si da per k t, w_ckL_wd]
    rfl
def w_cnL (n : Nat) (c : Nat → Nat) (si : Nat → Nat → Nat) (da : Nat → Nat → Int64) (per : Nat) : Nat → List (Int64 × Nat)
  | 0 => []
  | k + 1 => w_cnL n c si da per k ++ w_ctL c si da per k n
theorem w_cnL_wd (n : Nat) (c : Nat → Nat) (si : Nat → Nat → Nat) (da : Nat → Nat → Int64) (per : Nat) : ∀ k, f_wd (w_cnL n c si da per k) = w_cn n c si per k
  | 0 => rfl
  | k + 1 => by
    show f_wd (w_cnL n c si da per k ++ w_ctL c si da per k n) = _
    rw [f_wd_app, w_cnL_wd n c si da per k, w_ctL_wd]
    rfl
theorem w_ct_mono (c : Nat → Nat) (si : Nat → Nat → Nat) (per k : Nat) {t : Nat} : ∀ p, w_ct c si per k t ≤ w_ct c si per k (t + p)
  | 0 => Nat.le_refl _
  | p + 1 => Nat.le_trans (w_ct_mono c si per k p) (Nat.le_add_right _ _)
theorem w_cn_mono (n : Nat) (c : Nat → Nat) (si : Nat → Nat → Nat) (per : Nat) {k : Nat} : ∀ p, w_cn n c si per k ≤ w_cn n c si per (k + p)
  | 0 => Nat.le_refl _
  | p + 1 => Nat.le_trans (w_cn_mono n c si per p) (Nat.le_add_right _ _)
theorem w_cb_mono (si : Nat → Nat) (i : Nat) {j : Nat} : ∀ p, w_cb si i j ≤ w_cb si i (j + p)
  | 0 => Nat.le_refl _
  | p + 1 => Nat.le_trans (w_cb_mono si i p) (Nat.le_add_right _ _)
theorem w_moov_mono (c : Nat → Nat) (du : Nat → Nat → Nat) (per pw : Nat) {t : Nat} : ∀ p, w_moov c du per pw t ≤ w_moov c du per pw (t + p)
  | 0 => Nat.le_refl _
  | p + 1 => Nat.le_trans (w_moov_mono c du per pw p) (Nat.le_add_right _ _)
noncomputable def w_mv (n : Nat) (c : Nat → Nat) (du si : Nat → Nat → Nat) (per : Nat) (far : Bool) (pl : Nat → Nat → Nat) : Nat → List (Int64 × Nat)
  | 0 => [p4 (lN (w_moov c du per (w_pw far) n)), p4 (Int32.toInt64 1836019574)]
  | t + 1 => w_mv n c du si per far pl t ++ w_trak (c t) (du t) (si t) per far (pl t)
theorem w_mv_wd (n : Nat) (c : Nat → Nat) (du si : Nat → Nat → Nat) (per : Nat) (far : Bool) (pl : Nat → Nat → Nat) : ∀ t, f_wd (w_mv n c du si per far pl t) = w_moov c du per (w_pw far) t
  | 0 => rfl
  | t + 1 => by
    show f_wd (w_mv n c du si per far pl t ++ w_trak (c t) (du t) (si t) per far (pl t)) = _
    rw [f_wd_app, w_mv_wd n c du si per far pl t, w_trak_wd]
    rfl
def w_hd (wide : Bool) : Nat := if wide then 16 else 8
def w_mdh (wide : Bool) (sz : Nat) : List (Int64 × Nat) := if wide then [p4 1, p4 (Int32.toInt64 1835295092), (lN sz, 8)] else [p4 (lN sz), p4 (Int32.toInt64 1835295092)]
theorem w_mdh_wd (wide : Bool) (sz : Nat) : f_wd (w_mdh wide sz) = w_hd wide := by cases wide <;> rfl
theorem f_put1 {s : Nat × (Nat → Nat)} {a b : Int64} (h : fn_by a 0 = fn_by b 0) : f_put s (a, 1) = f_put s (b, 1) := by
  unfold f_put fn_app
  congr 1
  funext j
  split
  · rw [show 1 - 1 - (j - s.1) = 0 by omega]; exact h
  · rfl
theorem fn_by_lN {m : Nat} (h : m < 2 ^ 64) : fn_by (lN m) 0 = m % 256 := by
  unfold fn_by
  rw [wb_tn h, Nat.mul_zero, Nat.pow_zero, Nat.div_one]
theorem f_ush (v : Int64) {k : Nat} (hk : k < 8) : fn_by ((Int64.toUInt64 v >>> ((Int32.toInt64 (8 * nI k)).toUInt64 &&& Int64.toUInt64 63)).toInt64) 0 = fn_by (lN (fn_by v k)) 0 := by
  obtain ⟨m, hm, rfl⟩ := wb_of v
  have hd : m / 2 ^ (8 * k) < 2 ^ 64 := Nat.lt_of_le_of_lt (Nat.div_le_self _ _) hm
  have hb := fn_by_lt (lN m) k
  rw [sm_8, wb_shr hm (by omega), fn_by_lN hd, fn_by_lN (by omega), Nat.mod_eq_of_lt hb]
  unfold fn_by
  rw [wb_tn hm]
section WM
variable {Z : aj_Z} {I0 I : aj_I} {G : aj_G} {Q : aj_Q} {s : Nat × (Nat → Nat)} {per : Nat} {far wide : Bool} {d mc ms : Nat}
theorem T_writeChunk (hz : zAll Z) {o c : Nat} {du si : Nat → Nat} {da : Nat → Int64} (ho : zTr Z o) (ho2 : o + 3 < 17) (ht : tC I0 G o c du si da) (hw : zW I0 per far wide) {k : Nat} (hk : k ≤ 16) (he : eF I0 I s) (hfit : s.1 + w_ck c si per k ≤ 1200) (hQ : ∀ I' : aj_I, eF I0 I' (f_ps s (w_ckL c si da per k)) → Q none Z I' G) : aj_T (d + 3) mc ms 179 [.ref 52, .ref o, .int (nI k)] Z I G Q := by
  have h16 := ht.2.1
  have hp2 := hw.2.2.1
  have hkp : k * per ≤ 16 * 16 := Nat.mul_le_mul (by omega) hp2
  have hce := w_ce_le (c := c) (per := per) (k := k)
  refine t_179 fun J hJ => b_179_0 hJ (zk_52 hz) (T_chunkEnd hz ho (he.tr ht ho2) (he.zw hw) hk (b_179_6 hJ (zk_52 hz) ?_))
  rw [(he.zw hw).1, pk_mul]
  have key : ∀ (m j : Nat) (w2 w5 w6 : Option Value) (I1 : aj_I), m + j = w_ce c per k - k * per → eF I0 I1 (f_ps s (w_chL si da (k * per) j)) → J 15 [some (.ref 52), some (.ref o), w2, some (.int (nI (w_ce c per k))), some (.int (nI (k * per + j))), w5, w6] [] Z I1 G (0, 0) := by
    intro m
    induction m with
    | zero =>
      intro j w2 w5 w6 I1 hj h1
      refine b_179_15 hJ (fun _ => hQ I1 ?_) ho.1 (fun h => absurd (nI_le (by omega) (by omega)) h)
      have : j = w_ce c per k - k * per := by omega
      subst this
      exact h1
    | succ m ih =>
      intro j w2 w5 w6 I1 hj h1
      have hi : k * per + j < c := by omega
      have hs8 := (ht.2.2 (k * per + j) hi).2.2.2.1
      refine b_179_15 hJ (fun h => absurd h (nI_ge (by omega) (by omega))) ho.1 (fun _ => T_sizeOf ho (h1.tr ht ho2) hi (b_179_27 hJ ?_))
      have hmono := w_cb_mono si (k * per) (j := j + 1) m
      rw [show j + 1 + m = w_ce c per k - k * per by omega] at hmono
      have hmono : w_cb si (k * per) j + si (k * per + j) ≤ w_ck c si per k := hmono
      have inner : ∀ (p q : Nat) (w2 : Option Value) (I2 : aj_I), p + q = si (k * per + j) → eF I0 I2 (f_ps (f_ps s (w_chL si da (k * per) j)) (w_smp (da (k * per + j)) q)) → J 32 [some (.ref 52), some (.ref o), w2, some (.int (nI (w_ce c per k))), some (.int (nI (k * per + j))), some (.int (nI (si (k * per + j)))), some (.int (nI q))] [] Z I2 G (0, 0) := by
        intro p
        induction p with
        | zero =>
          intro q w2 I2 hq h2
          have hq : q = si (k * per + j) := by omega
          subst hq
          refine b_179_32 hJ (fun _ => ?_) (zk_52 hz) (zr_52_1 hz) ho.1 (fun h => absurd (nI_le (Nat.le_refl _) (by omega)) h)
          rw [nI_1]
          refine ih (j + 1) _ _ _ I2 (by omega) ?_
          show eF I0 I2 (f_ps s (w_chL si da (k * per) j ++ w_smp (da (k * per + j)) (si (k * per + j))))
          rw [f_ps_app]
          exact h2
        | succ p ih2 =>
          intro q w2 I2 hq h2
          have hlen : (f_ps (f_ps s (w_chL si da (k * per) j)) (w_smp (da (k * per + j)) q)).1 = s.1 + w_cb si (k * per) j + q := by rw [f_ps_1, f_ps_1, w_chL_wd, w_smp_wd]
          refine b_179_32 hJ (fun h => absurd h (nI_ge (by omega) (by omega))) (zk_52 hz) (zr_52_1 hz) ho.1 (fun _ => T_bytesOf ho (h2.tr ht ho2) hi (b_179_49 hJ (zk_17 hz) (T_addF (w := 1) hz h2 (by decide) (by decide) (by omega) (fun r I3 h3 => b_179_59 hJ ?_))))
          rw [nI_1]
          refine ih2 (q + 1) _ I3 (by omega) ?_
          show eF I0 I3 (f_ps _ (w_smp (da (k * per + j)) q ++ [(lN (fn_by (da (k * per + j)) q), 1)]))
          rw [f_ps_app]
          rw [f_put1 (f_ush _ (show q < 8 by omega))] at h3
          exact h3
      exact inner (si (k * per + j)) 0 _ I1 rfl h1
  exact key _ 0 _ _ _ I rfl he
variable {n : Nat} {c : Nat → Nat} {du si : Nat → Nat → Nat} {da : Nat → Nat → Int64}
theorem eF.rl {I0 I : aj_I} {s : Nat × (Nat → Nat)} (h : eF I0 I s) (hr : rC I0 G n c du si da) : rC I G n c du si da := hr.same (fun a _ _ => h.1 a (by omega) (by omega)) (fun _ _ _ => rfl)
theorem T_writeMdat (hz : zAll Z) (hr : rC I0 G n c du si da) (hw : zW I0 per far wide) {sz : Nat} (hsz : sz ≤ 1200) (he : eF I0 I s) (hfit : s.1 + w_hd wide + w_cn n c si per 16 ≤ 1200) (hQ : ∀ I' : aj_I, eF I0 I' (f_ps (f_ps s (w_mdh wide sz)) (w_cnL n c si da per 16)) → Q none Z I' G) : aj_T (d + 4) mc ms 178 [.ref 52, .int (nI sz)] Z I G Q := by
  have hn := hr.2.1
  refine t_178 fun J hJ => ?_
  have loop : ∀ (w1 w3 w4 : Option Value) (I1 : aj_I), eF I0 I1 (f_ps s (w_mdh wide sz)) → J 39 [some (.ref 52), w1, some (.int 0), w3, w4] [] Z I1 G (0, 0) := by
    intro w1 w3 w4 I1 h1
    have outer : ∀ (m k : Nat) (w1 w3 w4 : Option Value) (I2 : aj_I), m + k = 16 → eF I0 I2 (f_ps (f_ps s (w_mdh wide sz)) (w_cnL n c si da per k)) → J 39 [some (.ref 52), w1, some (.int (nI k)), w3, w4] [] Z I2 G (0, 0) := by
      intro m
      induction m with
      | zero =>
        intro k w1 w3 w4 I2 hk h2
        have hk : k = 16 := by omega
        subst hk
        exact b_178_39 hJ (fun _ => hQ I2 h2) (fun h => absurd (nI_le (a := 16) (b := 16) (Nat.le_refl _) (by decide)) h)
      | succ m ih =>
        intro k w1 w3 w4 I2 hk h2
        refine b_178_39 hJ (fun h => absurd h (nI_ge (a := k) (b := 16) (by omega) (by decide))) (fun _ => ?_)
        have hm1 := w_cn_mono n c si per (k := k + 1) m
        rw [show k + 1 + m = 16 by omega] at hm1
        have hm1 : w_cn n c si per k + w_ct c si per k n ≤ w_cn n c si per 16 := hm1
        have inner : ∀ (p t : Nat) (w1 w4 : Option Value) (I3 : aj_I), p + t = 3 → eF I0 I3 (f_ps (f_ps (f_ps s (w_mdh wide sz)) (w_cnL n c si da per k)) (w_ctL c si da per k (if t < n then t else n))) → J 47 [some (.ref 52), w1, some (.int (nI k)), some (.int (nI t)), w4] [] Z I3 G (0, 0) := by
          intro p
          induction p with
          | zero =>
            intro t w1 w4 I3 ht h3
            have ht : t = 3 := by omega
            subst ht
            rw [if_neg (by omega)] at h3
            refine b_178_47 hJ (fun _ => ?_) (zk_52 hz) (zr_52_0 hz) (zk_3 hz) (fun h => absurd (nI_le (a := 3) (b := 3) (Nat.le_refl _) (by decide)) h)
            rw [nI_1]
            refine ih (k + 1) _ _ _ I3 (by omega) ?_
            show eF I0 I3 (f_ps _ (w_cnL n c si da per k ++ w_ctL c si da per k n))
            rw [f_ps_app]
            exact h3
          | succ p ih2 =>
            intro t w1 w4 I3 ht h3
            refine b_178_47 hJ (fun h => absurd h (nI_ge (a := t) (b := 3) (by omega) (by decide))) (zk_52 hz) (zr_52_0 hz) (zk_3 hz) (fun _ => T_find hz (h3.rl hr) (fun t' ht' e => ?_) (fun hno => ?_))
            · have : t = t' := (nI_eq (by omega) (by omega)).mp e
              subst this
              rw [if_pos ht'] at h3
              have hm2 := w_ct_mono c si per k (t := t + 1) (n - (t + 1))
              rw [show t + 1 + (n - (t + 1)) = n by omega] at hm2
              have hm2 : w_ct c si per k t + w_ck (c t) (si t) per k ≤ w_ct c si per k n := hm2
              have hlen : (f_ps (f_ps (f_ps s (w_mdh wide sz)) (w_cnL n c si da per k)) (w_ctL c si da per k t)).1 = s.1 + w_hd wide + w_cn n c si per k + w_ct c si per k t := by rw [f_ps_1, f_ps_1, f_ps_1, w_mdh_wd, w_cnL_wd, w_ctL_wd]
              refine b_178_60 hJ (zk_52 hz) (T_writeChunk hz (zTr_t hz (by omega)) (by omega) (hr.2.2 t ht') hw (by omega) h3 (by omega) (fun I4 h4 => b_178_74 hJ ?_))
              rw [nI_1]
              refine ih2 (t + 1) _ _ I4 (by omega) ?_
              have e2 : (if t + 1 < n then t + 1 else n) = t + 1 := by split <;> omega
              rw [e2]
              show eF I0 I4 (f_ps _ (w_ctL c si da per k t ++ w_ckL (c t) (si t) (da t) per k))
              rw [f_ps_app]
              exact h4
            · have htn : ¬ t < n := fun q => hno t q rfl
              refine b_178_60N hJ (b_178_74 hJ ?_)
              rw [nI_1]
              refine ih2 (t + 1) _ _ I3 (by omega) ?_
              rw [if_neg htn] at h3
              rw [if_neg (by omega)]
              exact h3
        have e0 : (if 0 < n then 0 else n) = 0 := by split <;> omega
        refine inner 3 0 w1 w4 I2 (by omega) ?_
        rw [e0]
        exact h2
    exact outer 16 0 w1 w3 w4 I1 (by omega) h1
  have h5 : I 52 5 = (if wide then 1 else 0) := (he.zw hw).2.2.2.2
  cases wide with
  | false =>
    have hfit : s.1 + 8 + w_cn n c si per 16 ≤ 1200 := hfit
    refine b_178_0 hJ (zk_52 hz) (fun _ => T_putHead hz he (by omega) (fun I1 h1 => b_178_18 hJ (zk_52 hz) (fun _ => loop _ _ _ I1 ?_) (zr_52_1 hz) (zk_17 hz) (fun h => ?_))) (fun h => ?_)
    · rw [nI_l (by omega)] at h1
      exact h1
    · rw [(h1.zw hw).2.2.2.2] at h; exact absurd rfl h
    · rw [h5] at h; exact absurd rfl h
  | true =>
    have hfit : s.1 + 16 + w_cn n c si per 16 ≤ 1200 := hfit
    refine b_178_0 hJ (zk_52 hz) (fun h => ?_) (fun _ => T_putHead hz he (by omega) (fun I1 h1 => b_178_18 hJ (zk_52 hz) (fun h => ?_) (zr_52_1 hz) (zk_17 hz) (fun _ => T_addF (w := 8) hz h1 (by decide) (by decide) ?_ (fun r I2 h2 => b_178_36 hJ (loop _ _ _ I2 ?_)))))
    · rw [h5] at h; exact absurd h (by decide)
    · rw [(h1.zw hw).2.2.2.2] at h; exact absurd h (by decide)
    · show s.1 + 4 + 4 + 8 ≤ 1200; omega
    · rw [nI_l (by omega)] at h2
      exact h2
theorem T_writeMoov (hz : zAll Z) (hr : rC I0 G n c du si da) (hw : zW I0 per far wide) {pl : Nat → Nat → Nat} (hpl : ∀ t k, t < n → k < 16 → I0 53 (t * 16 + k) = nI (pl t k) ∧ pl t k < 2 ^ 31) (he : eF I0 I s) (hfit : s.1 + w_moov c du per (w_pw far) n ≤ 1200) (hQ : ∀ I' : aj_I, eF I0 I' (f_ps s (w_mv n c du si per far pl n)) → Q none Z I' G) : aj_T (d + 6) mc ms 172 [.ref 52, .int (nI (w_moov c du per (w_pw far) n))] Z I G Q := by
  have hn := hr.2.1
  have hm8 := w_moov_mono c du per (w_pw far) (t := 0) n
  rw [Nat.zero_add] at hm8
  have hm8 : 8 ≤ w_moov c du per (w_pw far) n := hm8
  refine t_172 fun J hJ => b_172_0 hJ (zk_52 hz) (T_putHead hz he (by omega) (fun I1 h1 => b_172_7 hJ ?_))
  rw [nI_l (by omega)] at h1
  have loop : ∀ (p t : Nat) (w1 w3 : Option Value) (I2 : aj_I), p + t = 3 → eF I0 I2 (f_ps s (w_mv n c du si per far pl (if t < n then t else n))) → J 9 [some (.ref 52), w1, some (.int (nI t)), w3] [] Z I2 G (0, 0) := by
    intro p
    induction p with
    | zero =>
      intro t w1 w3 I2 ht h2
      have ht : t = 3 := by omega
      subst ht
      rw [if_neg (by omega)] at h2
      exact b_172_9 hJ (fun _ => hQ I2 h2) (zk_52 hz) (zr_52_0 hz) (zk_3 hz) (fun h => absurd (nI_le (a := 3) (b := 3) (Nat.le_refl _) (by decide)) h)
    | succ p ih =>
      intro t w1 w3 I2 ht h2
      refine b_172_9 hJ (fun h => absurd h (nI_ge (a := t) (b := 3) (by omega) (by decide))) (zk_52 hz) (zr_52_0 hz) (zk_3 hz) (fun _ => T_find hz (h2.rl hr) (fun t' ht' e => ?_) (fun hno => ?_))
      · have : t = t' := (nI_eq (by omega) (by omega)).mp e
        subst this
        rw [if_pos ht'] at h2
        have hm2 := w_moov_mono c du per (w_pw far) (t := t + 1) (n - (t + 1))
        rw [show t + 1 + (n - (t + 1)) = n by omega] at hm2
        have hm2 : w_moov c du per (w_pw far) t + (8 + w_stbl (c t) (du t) per (w_pw far)) ≤ w_moov c du per (w_pw far) n := hm2
        have hlen : (f_ps s (w_mv n c du si per far pl t)).1 = s.1 + w_moov c du per (w_pw far) t := by rw [f_ps_1, w_mv_wd]
        have hst : w_stbl (c t) (du t) per (w_pw far) = 76 + 8 * w_rows (du t) (c t) + 12 * w_trn (c t) per + 4 * c t + w_pw far * w_chk (c t) per := rfl
        have hzo := zTr_t hz (t := t) (by omega)
        have htc := hr.2.2 t ht'
        have ho2 : 5 + 4 * t + 3 < 17 := by omega
        refine b_172_22 hJ (zk_52 hz) (T_stblSize hz hzo (h2.tr htc ho2) (h2.zw hw) (b_172_35 hJ (zk_52 hz) ?_))
        rw [show (8 : Int32) = nI 8 from rfl, nI_add]
        refine T_putHead hz h2 (by omega) (fun I3 h3 => b_172_41 hJ (zk_52 hz) (T_stblSize hz hzo (h3.tr htc ho2) (h3.zw hw) (b_172_47 hJ (zk_52 hz) (T_putHead hz h3 ?_ (fun I4 h4 => b_172_52 hJ (zk_52 hz) (T_writeStts hz hzo ho2 htc h4 ?_ (fun I5 h5 => b_172_57 hJ (zk_52 hz) (T_writeStsc hz hzo ho2 htc hw h5 ?_ (fun I6 h6 => b_172_62 hJ (zk_52 hz) (T_writeStsz hz hzo ho2 htc h6 ?_ (fun I7 h7 => b_172_67 hJ (zk_52 hz) (T_writePlaces hz hzo ho2 htc hw (by omega) (fun k hk => hpl t k ht' hk) h7 ?_ (fun I8 h8 => b_172_73 hJ ?_)))))))))))))
        · rw [f_ps_1, hlen]; show s.1 + w_moov c du per (w_pw far) t + 8 + 8 ≤ 1200; omega
        · rw [f_ps_1, f_ps_1, hlen]; show s.1 + w_moov c du per (w_pw far) t + 8 + 8 + _ ≤ 1200; omega
        · rw [f_ps_1, w_stts_wd, f_ps_1, f_ps_1, hlen]; show s.1 + w_moov c du per (w_pw far) t + 8 + 8 + _ + _ ≤ 1200; omega
        · rw [f_ps_1, w_stsc_wd, f_ps_1, w_stts_wd, f_ps_1, f_ps_1, hlen]; show s.1 + w_moov c du per (w_pw far) t + 8 + 8 + _ + _ + _ ≤ 1200; omega
        · rw [f_ps_1, w_stsz_wd, f_ps_1, w_stsc_wd, f_ps_1, w_stts_wd, f_ps_1, f_ps_1, hlen]; show s.1 + w_moov c du per (w_pw far) t + 8 + 8 + _ + _ + _ + _ ≤ 1200; omega
        · rw [nI_1]
          refine ih (t + 1) _ _ I8 (by omega) ?_
          have e2 : (if t + 1 < n then t + 1 else n) = t + 1 := by split <;> omega
          rw [e2]
          show eF I0 I8 (f_ps s (w_mv n c du si per far pl t ++ w_trak (c t) (du t) (si t) per far (pl t)))
          unfold w_trak
          rw [f_ps_app, f_ps_app, f_ps_app, f_ps_app, f_ps_app, f_ps_app]
          rw [nI_l (by omega), nI_l (by omega)] at h8
          exact h8
      · have htn : ¬ t < n := fun q => hno t q rfl
        refine b_172_22N hJ (b_172_73 hJ ?_)
        rw [nI_1]
        refine ih (t + 1) _ _ I2 (by omega) ?_
        rw [if_neg htn] at h2
        rw [if_neg (by omega)]
        exact h2
  have e0 : (if 0 < n then 0 else n) = 0 := by split <;> omega
  refine loop 3 0 _ _ I1 (by omega) ?_
  rw [e0]
  exact h1
end WM
