/-! the reference's write: the media and the whole -/
theorem f_ssh (v : Int64) {k : Nat} (hk : k < 8) : (v >>> (Int32.toInt64 (8 * nI k) &&& 63)) &&& 255 = lN (fn_by v k) := by
  obtain ⟨m, hm, rfl⟩ := wb_of v
  rw [sm_8, fn_sh8 m hk]
  unfold fn_by
  rw [wb_tn hm]
section MY
variable {Z : aj_Z} {I0 I : aj_I} {G : aj_G} {Q : aj_Q} {s : Nat × (Nat → Nat)} {n : Nat} {c : Nat → Nat} {du si : Nat → Nat → Nat} {da : Nat → Nat → Int64} {per : Nat} {far wide : Bool} {d mc ms : Nat}
theorem M_writeData (hz : zAll Z) (hr : mR I0 G n c du si da) (hp1 : 1 ≤ per) (hp2 : per ≤ 16) (he : eM I0 I s) (hfit : s.1 + w_cn n c si per 16 ≤ 1200) (hQ : ∀ I' : aj_I, eM I0 I' (f_ps s (w_cnL n c si da per 16)) → Q none Z I' G) : aj_T (d + 3) mc ms 39 [.ref 54, .int (nI per)] Z I G Q := by
  have hn := hr.2.1
  refine t_39 fun J hJ => b_39_0 hJ ?_
  have outer : ∀ (m k : Nat) (w3 w4 w5 w6 : Option Value) (I2 : aj_I), m + k = 16 → eM I0 I2 (f_ps s (w_cnL n c si da per k)) → J 2 [some (.ref 54), some (.int (nI per)), some (.int (nI k)), w3, w4, w5, w6] [] Z I2 G (0, 0) := by
    intro m
    induction m with
    | zero =>
      intro k w3 w4 w5 w6 I2 hk h2
      have hk : k = 16 := by omega
      subst hk
      exact b_39_2 hJ (fun _ => hQ I2 h2) (fun h => absurd (nI_le (a := 16) (b := 16) (Nat.le_refl _) (by decide)) h)
    | succ m ih =>
      intro k w3 w4 w5 w6 I2 hk h2
      refine b_39_2 hJ (fun h => absurd h (nI_ge (a := k) (b := 16) (by omega) (by decide))) (fun _ => ?_)
      have hm1 := w_cn_mono n c si per (k := k + 1) m
      rw [show k + 1 + m = 16 by omega] at hm1
      have hm1 : w_cn n c si per k + w_ct c si per k n ≤ w_cn n c si per 16 := hm1
      have hkp : k * per ≤ 16 * 16 := Nat.mul_le_mul (by omega) hp2
      have tracks : ∀ (p t : Nat) (w4 w5 w6 : Option Value) (I3 : aj_I), p + t = n → eM I0 I3 (f_ps (f_ps s (w_cnL n c si da per k)) (w_ctL c si da per k t)) → J 10 [some (.ref 54), some (.int (nI per)), some (.int (nI k)), some (.int (nI t)), w4, w5, w6] [] Z I3 G (0, 0) := by
        intro p
        induction p with
        | zero =>
          intro t w4 w5 w6 I3 ht h3
          have ht : t = n := by omega
          subst ht
          refine b_39_10 hJ (zk_54 hz) (fun _ => ?_) (fun h => ?_)
          · rw [nI_1]
            refine ih (k + 1) _ _ _ _ I3 (by omega) ?_
            show eM I0 I3 (f_ps _ (w_cnL t c si da per k ++ w_ctL c si da per k t))
            rw [f_ps_app]
            exact h3
          · rw [(h3.rl hr).1] at h; exact absurd (nI_le (Nat.le_refl _) (by omega)) h
        | succ p ih2 =>
          intro t w4 w5 w6 I3 ht h3
          have htn : t < n := by omega
          have hc := hr.2.2 t htn
          have h16 := hc.2.1
          have hce := w_ce_le (c := c t) (per := per) (k := k)
          have hm2 := w_ct_mono c si per k (t := t + 1) (n - (t + 1))
          rw [show t + 1 + (n - (t + 1)) = n by omega] at hm2
          have hm2 : w_ct c si per k t + w_ck (c t) (si t) per k ≤ w_ct c si per k n := hm2
          refine b_39_10 hJ (zk_54 hz) (fun h => ?_) (fun _ => ?_)
          · rw [(h3.rl hr).1] at h; exact absurd h (nI_ge (by omega) (by omega))
          have samples : ∀ (q j : Nat) (w5 w6 : Option Value) (I4 : aj_I), q + j = w_ce (c t) per k - k * per → eM I0 I4 (f_ps (f_ps (f_ps s (w_cnL n c si da per k)) (w_ctL c si da per k t)) (w_chL (si t) (da t) (k * per) j)) → J 21 [some (.ref 54), some (.int (nI per)), some (.int (nI k)), some (.int (nI t)), some (.int (nI j)), w5, w6] [] Z I4 G (0, 0) := by
            intro q
            induction q with
            | zero =>
              intro j w5 w6 I4 hj h4
              have hj : j = w_ce (c t) per k - k * per := by omega
              refine b_39_21 hJ (zk_54 hz) (M_chunkSize hz (h4.rl hr) htn hp1 hp2 (by omega) (b_39_30 hJ (fun _ => ?_) (fun h => absurd (nI_le (by omega) (by omega)) h)))
              rw [nI_1]
              refine ih2 (t + 1) _ _ _ I4 (by omega) ?_
              show eM I0 I4 (f_ps _ (w_ctL c si da per k t ++ w_ckL (c t) (si t) (da t) per k))
              rw [f_ps_app]
              rw [hj] at h4
              exact h4
            | succ q ih3 =>
              intro j w5 w6 I4 hj h4
              have hi : k * per + j < c t := by omega
              have hs8 := (hc.2.2 (k * per + j) hi).2.2.2.1
              have ei : (16 : Int32) * nI t + nI k * nI per + nI j = nI (16 * t + (k * per + j)) := by rw [pk_mul, sm_16, nI_add, Nat.add_assoc]
              refine b_39_21 hJ (zk_54 hz) (M_chunkSize hz (h4.rl hr) htn hp1 hp2 (by omega) (b_39_30 hJ (fun h => absurd h (nI_ge (by omega) (by omega))) (fun _ => ?_)))
              rw [ei]
              have hmono := w_cb_mono (si t) (k * per) (j := j + 1) q
              rw [show j + 1 + q = w_ce (c t) per k - k * per by omega] at hmono
              have hmono : w_cb (si t) (k * per) j + si t (k * per + j) ≤ w_ck (c t) (si t) per k := hmono
              have bytes : ∀ (p r : Nat) (I5 : aj_I), p + r = si t (k * per + j) → eM I0 I5 (f_ps (f_ps (f_ps (f_ps s (w_cnL n c si da per k)) (w_ctL c si da per k t)) (w_chL (si t) (da t) (k * per) j)) (w_smp (da t (k * per + j)) r)) → J 49 [some (.ref 54), some (.int (nI per)), some (.int (nI k)), some (.int (nI t)), some (.int (nI j)), some (.int (nI (16 * t + (k * per + j)))), some (.int (nI r))] [] Z I5 G (0, 0) := by
                intro p
                induction p with
                | zero =>
                  intro r I5 hr5 h5
                  have hr5 : r = si t (k * per + j) := by omega
                  have q5 := ((h5.rl hr).2.2 t htn).2.2 (k * per + j) hi
                  have es : I5 57 (nI (16 * t + (k * per + j))).toNatClampNeg = nI (si t (k * per + j)) := by rw [nI_clamp (by omega)]; exact q5.2.2.1
                  have hle : I5 57 (nI (16 * t + (k * per + j))).toNatClampNeg ≤ nI r := by rw [es, hr5]; exact nI_le (Nat.le_refl _) (by omega)
                  refine b_39_49 hJ (zk_54 hz) (zr_54_3 hz) (zk_57 hz) (vp_in_nI (by omega) (by decide)) (fun _ => ?_) (zr_54_4 hz) (zk_58 hz) (fun h => absurd hle h) (fun h => absurd hle h)
                  rw [nI_1]
                  refine ih3 (j + 1) _ _ I5 (by omega) ?_
                  show eM I0 I5 (f_ps _ (w_chL (si t) (da t) (k * per) j ++ w_smp (da t (k * per + j)) (si t (k * per + j))))
                  rw [f_ps_app]
                  rw [hr5] at h5
                  exact h5
                | succ p ih4 =>
                  intro r I5 hr5 h5
                  have q5 := ((h5.rl hr).2.2 t htn).2.2 (k * per + j) hi
                  have es : I5 57 (nI (16 * t + (k * per + j))).toNatClampNeg = nI (si t (k * per + j)) := by rw [nI_clamp (by omega)]; exact q5.2.2.1
                  have hlen : (f_ps (f_ps (f_ps (f_ps s (w_cnL n c si da per k)) (w_ctL c si da per k t)) (w_chL (si t) (da t) (k * per) j)) (w_smp (da t (k * per + j)) r)).1 = s.1 + w_cn n c si per k + w_ct c si per k t + w_cb (si t) (k * per) j + r := by rw [f_ps_1, f_ps_1, f_ps_1, f_ps_1, w_cnL_wd, w_ctL_wd, w_chL_wd, w_smp_wd]
                  refine b_39_49 hJ (zk_54 hz) (zr_54_3 hz) (zk_57 hz) (vp_in_nI (by omega) (by decide)) (fun h => ?_) (zr_54_4 hz) (zk_58 hz) (fun _ => vp_in_nI (by omega) (by decide)) (fun _ => ?_)
                  · rw [es] at h; exact absurd h (nI_ge (by omega) (by omega))
                  · rw [nI_clamp (show 16 * t + (k * per + j) < 2 ^ 31 by omega), q5.2.2.2.2, f_ssh _ (show r < 8 by omega)]
                    refine M_add (w := 1) hz h5 (by decide) (by omega) (fun I6 h6 => b_39_83 hJ ?_)
                    rw [nI_1]
                    refine ih4 (r + 1) I6 (by omega) ?_
                    show eM I0 I6 (f_ps _ (w_smp (da t (k * per + j)) r ++ [(lN (fn_by (da t (k * per + j)) r), 1)]))
                    rw [f_ps_app]
                    exact h6
              exact bytes (si t (k * per + j)) 0 I4 rfl h4
          exact samples (w_ce (c t) per k - k * per) 0 _ _ I3 rfl h3
      exact tracks n 0 _ _ _ I2 rfl h2
  exact outer 16 0 _ _ _ _ I rfl he
end MY
/-! all chunks together hold each sample once -/
def w_mn (c per k : Nat) : Nat := if k * per < c then k * per else c
theorem w_cb_add (si : Nat → Nat) (i a : Nat) : ∀ b, w_cb si i (a + b) = w_cb si i a + w_cb si (i + a) b
  | 0 => rfl
  | b + 1 => by
    show w_cb si i (a + b) + si (i + (a + b)) = w_cb si i a + (w_cb si (i + a) b + si (i + a + b))
    rw [w_cb_add si i a b, Nat.add_assoc, Nat.add_assoc i]
theorem w_ck_step {c per k : Nat} (si : Nat → Nat) (hp : 1 ≤ per) : w_cb si 0 (w_mn c per k) + w_ck c si per k = w_cb si 0 (w_mn c per (k + 1)) := by
  have e1 : (k + 1) * per = k * per + per := by rw [Nat.add_mul, Nat.one_mul]
  unfold w_ck
  by_cases h : k * per < c
  · have h1 : w_mn c per k = k * per := if_pos h
    have h2 : w_mn c per (k + 1) = k * per + (w_ce c per k - k * per) := by unfold w_mn w_ce; split <;> omega
    rw [h1, h2, w_cb_add, Nat.zero_add]
  · have h1 : w_mn c per k = c := if_neg h
    have h2 : w_mn c per (k + 1) = c := if_neg (by omega)
    have h3 : w_ce c per k - k * per = 0 := by unfold w_ce; split <;> omega
    rw [h1, h2, h3]
    rfl
def w_sm (c : Nat → Nat) (si : Nat → Nat → Nat) (per k : Nat) : Nat → Nat
  | 0 => 0
  | t + 1 => w_sm c si per k t + w_cb (si t) 0 (w_mn (c t) per k)
theorem w_sm_step (c : Nat → Nat) (si : Nat → Nat → Nat) {per : Nat} (hp : 1 ≤ per) (k : Nat) : ∀ t, w_sm c si per k t + w_ct c si per k t = w_sm c si per (k + 1) t
  | 0 => rfl
  | t + 1 => by
    have h1 := w_sm_step c si hp k t
    have h2 := w_ck_step (c := c t) (k := k) (si t) hp
    show w_sm c si per k t + w_cb (si t) 0 (w_mn (c t) per k) + (w_ct c si per k t + w_ck (c t) (si t) per k) = w_sm c si per (k + 1) t + w_cb (si t) 0 (w_mn (c t) per (k + 1))
    omega
theorem w_sm_0 (c : Nat → Nat) (si : Nat → Nat → Nat) (per : Nat) : ∀ t, w_sm c si per 0 t = 0
  | 0 => rfl
  | t + 1 => by
    show w_sm c si per 0 t + w_cb (si t) 0 (w_mn (c t) per 0) = 0
    rw [w_sm_0 c si per t, show w_mn (c t) per 0 = 0 by unfold w_mn; split <;> omega]
    rfl
theorem w_cn_sm (n : Nat) (c : Nat → Nat) (si : Nat → Nat → Nat) {per : Nat} (hp : 1 ≤ per) : ∀ k, w_cn n c si per k = w_sm c si per k n
  | 0 => (w_sm_0 c si per n).symm
  | k + 1 => by
    show w_cn n c si per k + w_ct c si per k n = _
    rw [w_cn_sm n c si hp k, w_sm_step c si hp]
theorem M_write : WM w_wr := by
  intro Z I G Q n c du si da len b pl x y hz h h1 h2
  have lt_le : ∀ {a b : Int32}, a < b → ¬ b ≤ a := fun h1 h2 => by rw [Int32.lt_iff_toInt_lt] at h1; rw [Int32.le_iff_toInt_le] at h2; omega
  refine t_40 fun J hJ => ?_
  have main : ∀ (per v : Nat), x = nI per → y = nI v → 1 ≤ per → per ≤ 16 → v ≤ 3 → ∀ (far wide : Bool), far = decide (nI v &&& 1 = 1) → wide = decide (nI v &&& 2 = 2) →
      J 56 [some (.ref 54), some (.int (nI per)), some (.int (nI v)), some (.int (if far then 1 else 0)), some (.int (if wide then 1 else 0)), some (.int 8), some (.int 0), none, none, none] [] Z I G (0, 0) := by
    intro per v hx hy hp1 hp2 hv far wide hfar hwide
    have hr := h.1
    have hn := hr.2.1
    have hcc : ∀ t, t < n → c t ≤ 16 ∧ ∀ i, i < c t → si t i ≤ 8 := fun t ht => ⟨(hr.2.2 t ht).2.1, fun i hi => ((hr.2.2 t ht).2.2 i hi).2.2.2.1⟩
    have bm := w_moov_le (du := du) (far := far) hp1 (fun t ht => (hcc t ht).1) n (Nat.le_refl _)
    have bn := w_cn_le (per := per) hn hcc 16
    have bh : w_hd wide ≤ 16 := by cases wide <;> decide
    have htot : w_tot n c du si per far wide = w_moov c du per (w_pw far) n + w_hd wide + w_cn n c si per 16 := rfl
    -- behind the head of the media
    have data : ∀ (w2 w3 w4 w5 w6 w8 w9 : Option Value) (I1 : aj_I), w_tot n c du si per far wide ≤ 1200 → eM I I1 (f_ps (f_ps f_z (w_mv n c du si per far (w_pl n c du si per far wide) n)) (w_mdh wide (w_hd wide + w_cn n c si per 16))) →
        J 249 [some (.ref 54), some (.int (nI per)), w2, w3, w4, w5, w6, some (.int (nI (w_tot n c du si per far wide))), w8, w9] [] Z I1 G (0, 0) := by
      intro w2 w3 w4 w5 w6 w8 w9 I1 hle e1
      refine b_40_249 hJ (zk_54 hz) (M_writeData hz hr hp1 hp2 e1 ?_ (fun I2 e2 => b_40_254 hJ ?_))
      · rw [f_ps_1, f_ps_1, w_mv_wd, w_mdh_wd]; show 0 + _ + _ + _ ≤ _; omega
      · have e : f_ps (f_ps (f_ps f_z (w_mv n c du si per far (w_pl n c du si per far wide) n)) (w_mdh wide (w_hd wide + w_cn n c si per 16))) (w_cnL n c si da per 16) = f_ps f_z (w_all n c du si da per far wide) := by
          unfold w_all
          rw [f_ps_app, f_ps_app]
        rw [e] at e2
        have e3 : (f_ps f_z (w_all n c du si da per far wide)).1 = w_tot n c du si per far wide := by rw [f_ps_1, w_all_wd]; exact Nat.zero_add _
        rw [← e3]
        refine h1 I2 _ (f_ps f_z (w_all n c du si da per far wide)).2 (fun a ha => e2.1 a (by omega) (by omega)) ?_ ⟨e2.rl hr, e2.2.2, by rw [e2.2.1 7 (by decide)]; exact h.2.2⟩
        subst hfar; subst hwide; subst hx; subst hy
        exact w_wr_y (r := (n, c, du, si, da)) hp1 hp2 hv hle
    have esz : nI (w_tot n c du si per far wide) - nI (w_moov c du per (w_pw far) n) = nI (w_hd wide + w_cn n c si per 16) := by rw [pk_sub (by omega), htot, show w_moov c du per (w_pw far) n + w_hd wide + w_cn n c si per 16 - w_moov c du per (w_pw far) n = w_hd wide + w_cn n c si per 16 by omega]
    have tracks : ∀ (m t : Nat) (w2 w9 : Option Value) (I1 : aj_I), m + t = n → w_tot n c du si per far wide ≤ 1200 → eM I I1 (f_ps f_z (w_mv n c du si per far (w_pl n c du si per far wide) t)) →
        J 139 [some (.ref 54), some (.int (nI per)), w2, some (.int (if far then 1 else 0)), some (.int (if wide then 1 else 0)), some (.int (nI (w_moov c du per (w_pw far) n))), some (.int (nI (w_moov c du per (w_pw far) n + w_hd wide))), some (.int (nI (w_tot n c du si per far wide))), some (.int (nI t)), w9] [] Z I1 G (0, 0) := by
      intro m
      induction m with
      | zero =>
        intro t w2 w9 I1 ht hle e1
        have ht : t = n := by omega
        subst ht
        have hlen : (f_ps f_z (w_mv t c du si per far (w_pl t c du si per far wide) t)).1 = w_moov c du per (w_pw far) t := by rw [f_ps_1, w_mv_wd]; exact Nat.zero_add _
        have h0 : I1 54 0 = nI t := (e1.rl hr).1
        have hno : ¬ ¬ I1 54 0 ≤ nI t := fun q => q (by rw [h0]; exact nI_le (Nat.le_refl _) (by omega))
        cases hwd : wide
        · subst hwd
          have b8 : w_hd false = 8 := rfl
          refine b_40_139 hJ (zk_54 hz) (fun _ _ => ?_) (fun _ q => absurd rfl q) (fun q => absurd q hno)
          rw [esz]
          refine M_head hz e1 (by omega) (fun I2 e2 => b_40_232 hJ (fun _ => data _ _ _ _ _ _ _ I2 hle ?_) (zk_54 hz) (fun q => absurd rfl q))
          rw [nI_l (by omega)] at e2
          exact e2
        · subst hwd
          have b16 : w_hd true = 16 := rfl
          refine b_40_139 hJ (zk_54 hz) (fun _ q => absurd q (by decide)) (fun _ _ => ?_) (fun q => absurd q hno)
          refine M_head hz e1 (by omega) (fun I2 e2 => b_40_232 hJ (fun q => absurd q (by decide)) (zk_54 hz) (fun _ => ?_))
          rw [esz, nI_l (by omega)]
          refine M_add (w := 8) hz e2 (by decide) ?_ (fun I3 e3 => data _ _ _ _ _ _ _ I3 hle e3)
          show (f_ps f_z (w_mv t c du si per far (w_pl t c du si per far true) t)).1 + 4 + 4 + 8 ≤ 1200
          omega
      | succ m ih =>
        intro t w2 w9 I1 ht hle e1
        have htn : t < n := by omega
        have hm2 := w_moov_mono c du per (w_pw far) (t := t + 1) (n - (t + 1))
        rw [show t + 1 + (n - (t + 1)) = n by omega] at hm2
        have hm2 : w_moov c du per (w_pw far) t + (8 + w_stbl (c t) (du t) per (w_pw far)) ≤ w_moov c du per (w_pw far) n := hm2
        have hlen : (f_ps f_z (w_mv n c du si per far (w_pl n c du si per far wide) t)).1 = w_moov c du per (w_pw far) t := by rw [f_ps_1, w_mv_wd]; exact Nat.zero_add _
        have hst : w_stbl (c t) (du t) per (w_pw far) = 76 + 8 * w_rows (du t) (c t) + 12 * w_trn (c t) per + 4 * c t + w_pw far * w_chk (c t) per := rfl
        have h0 : I1 54 0 = nI n := (e1.rl hr).1
        have hno : ¬ I1 54 0 ≤ nI t := by rw [h0]; exact nI_ge (by omega) (by omega)
        refine b_40_139 hJ (zk_54 hz) (fun q => absurd q hno) (fun q => absurd q hno) (fun _ => M_stblSize hz (e1.rl hr) htn hp1 hp2 (b_40_156 hJ (zk_54 hz) ?_))
        rw [show (8 : Int32) + nI (w_stbl (c t) (du t) per (w_pw far)) = nI (8 + w_stbl (c t) (du t) per (w_pw far)) from nI_add 8 _]
        refine M_head hz e1 (by omega) (fun I3 e3 => b_40_169 hJ (zk_54 hz) (M_head hz e3 ?_ (fun I4 e4 => b_40_177 hJ (zk_54 hz) (M_writeTimes hz hr htn e4 ?_ (fun I5 e5 => b_40_183 hJ (zk_54 hz) (M_writeTurns hz hr htn hp1 hp2 e5 ?_ (fun I6 e6 => b_40_190 hJ (zk_54 hz) (M_writeSizes hz hr htn e6 ?_ (fun I7 e7 => b_40_196 hJ (zk_54 hz) (M_writePlaces hz hr htn hp1 hp2 (by omega) e7 ?_ (fun I8 e8 => b_40_206 hJ ?_))))))))))) 
        · rw [f_ps_1, hlen]; show w_moov c du per (w_pw far) t + 8 + 8 ≤ 1200; omega
        · rw [f_ps_1, f_ps_1, hlen]; show w_moov c du per (w_pw far) t + 8 + 8 + _ ≤ 1200; omega
        · rw [f_ps_1, w_stts_wd, f_ps_1, f_ps_1, hlen]; show w_moov c du per (w_pw far) t + 8 + 8 + _ + _ ≤ 1200; omega
        · rw [f_ps_1, w_stsc_wd, f_ps_1, w_stts_wd, f_ps_1, f_ps_1, hlen]; show w_moov c du per (w_pw far) t + 8 + 8 + _ + _ + _ ≤ 1200; omega
        · rw [f_ps_1, w_stsz_wd, f_ps_1, w_stsc_wd, f_ps_1, w_stts_wd, f_ps_1, f_ps_1, hlen]; show w_moov c du per (w_pw far) t + 8 + 8 + _ + _ + _ + _ ≤ 1200; omega
        · rw [nI_1]
          refine ih (t + 1) _ _ I8 (by omega) hle ?_
          show eM I I8 (f_ps f_z (w_mv n c du si per far (w_pl n c du si per far wide) t ++ w_trak (c t) (du t) (si t) per far (w_pl n c du si per far wide t)))
          unfold w_trak
          rw [f_ps_app, f_ps_app, f_ps_app, f_ps_app, f_ps_app, f_ps_app]
          rw [nI_l (by omega), nI_l (by omega)] at e8
          exact e8
    have total : ∀ (w2 w7 w8 w9 : Option Value), J 110 [some (.ref 54), some (.int (nI per)), w2, some (.int (if far then 1 else 0)), some (.int (if wide then 1 else 0)), some (.int (nI (w_moov c du per (w_pw far) n))), some (.int (nI (w_moov c du per (w_pw far) n + w_hd wide))), w7, w8, w9] [.int (nI (w_sm c si per 16 n)), .int (nI (w_moov c du per (w_pw far) n + w_hd wide))] Z I G (0, 0) := by
      intro w2 w7 w8 w9
      have et : nI (w_moov c du per (w_pw far) n + w_hd wide) + nI (w_sm c si per 16 n) = nI (w_tot n c du si per far wide) := by rw [nI_add, ← w_cn_sm n c si hp1 16]; rfl
      refine b_40_110 hJ (zk_54 hz) (fun q => ?_) (fun q => ?_)
      · rw [et] at q ⊢
        have hle : w_tot n c du si per far wide ≤ 1200 := (nI_leI (b := 1200) (by omega) (by decide)).mp q
        have e0 : eM I (aj_u2 I 54 5 0) f_z := ⟨fun a a1 a2 => aj_u2_ne a1, fun k hk => aj_u2_n2 hk, aj_u2_at, by decide, fun j hj => absurd hj (Nat.not_lt_zero _)⟩
        refine M_head hz e0 (by decide) (fun I1 e1 => b_40_136 hJ (tracks n 0 _ _ I1 rfl hle ?_))
        rw [nI_l (by omega)] at e1
        exact e1
      · rw [et] at q
        refine h2 I (fun _ _ => rfl) ?_ h
        have hgt : ¬ w_tot n c du si per far wide ≤ 1200 := fun z => q (nI_le (b := 1200) z (by decide))
        subst hfar; subst hwide; subst hx; subst hy
        exact w_wr_n (r := (n, c, du, si, da)) hp2 hgt
    have sizes : ∀ (m t : Nat) (w7 w8 w9 : Option Value), m + t = n → J 56 [some (.ref 54), some (.int (nI per)), some (.int (nI v)), some (.int (if far then 1 else 0)), some (.int (if wide then 1 else 0)), some (.int (nI (w_moov c du per (w_pw far) t))), some (.int (nI t)), w7, w8, w9] [] Z I G (0, 0) := by
      intro m
      induction m with
      | zero =>
        intro t w7 w8 w9 ht
        have ht : t = n := by omega
        subst ht
        have hno : ¬ ¬ I 54 0 ≤ nI t := fun q => q (by rw [hr.1]; exact nI_le (Nat.le_refl _) (by omega))
        have all : ∀ {Q' : aj_Q}, Q' (some (.int (nI (w_sm c si per 16 t)))) Z I G → aj_T 8 0 0 38 [.ref 54] Z I G Q' := fun hq => M_allBytes (d := 7) (a := w_sm c si per 16) hz hr rfl (fun u hu => by
          show w_sm c si per 16 u + w_cb (si u) 0 (w_mn (c u) per 16) = _
          rw [show w_mn (c u) per 16 = c u from if_neg (by have := (hcc u hu).1; omega)]) hq
        cases hwd : wide
        · subst hwd
          refine b_40_56 hJ (zk_54 hz) (fun _ _ => all ?_) (fun _ q => absurd rfl q) (fun q => absurd q hno)
          rw [show nI (w_moov c du per (w_pw far) t) + 8 = nI (w_moov c du per (w_pw far) t + 8) from nI_add _ 8]
          exact total _ _ _ _
        · subst hwd
          refine b_40_56 hJ (zk_54 hz) (fun _ q => absurd q (by decide)) (fun _ _ => all ?_) (fun q => absurd q hno)
          rw [show nI (w_moov c du per (w_pw far) t) + 16 = nI (w_moov c du per (w_pw far) t + 16) from nI_add _ 16]
          exact total _ _ _ _
      | succ m ih =>
        intro t w7 w8 w9 ht
        have htn : t < n := by omega
        have hno : ¬ I 54 0 ≤ nI t := by rw [hr.1]; exact nI_ge (by omega) (by omega)
        refine b_40_56 hJ (zk_54 hz) (fun q => absurd q hno) (fun q => absurd q hno) (fun _ => M_stblSize hz hr htn hp1 hp2 (b_40_78 hJ ?_))
        rw [show nI (w_moov c du per (w_pw far) t) + 8 = nI (w_moov c du per (w_pw far) t + 8) from nI_add _ 8, nI_add, nI_1, Nat.add_assoc]
        exact ih (t + 1) _ _ _ (by omega)
    exact sizes n 0 _ _ _ rfl
  have st : ∀ (per v : Nat), x = nI per → y = nI v → 1 ≤ per → per ≤ 16 → v ≤ 3 → ∀ (far : Bool), far = decide (nI v &&& 1 = 1) → J 34 [some (.ref 54), some (.int (nI per)), some (.int (nI v)), none, none, none, none, none, none, none] [.int (if far then 1 else 0)] Z I G (0, 0) := by
    intro per v hx hy hp1 hp2 hv far hfar
    refine b_40_34 hJ (fun q => ?_) (fun q => ?_)
    · exact main per v hx hy hp1 hp2 hv far false hfar (by rw [decide_eq_false q])
    · exact main per v hx hy hp1 hp2 hv far true hfar (by rw [decide_eq_true q])
  refine b_40_0 hJ (fun q => h2 I (fun _ _ => rfl) (w_wr_o (fun z => lt_le q z.1)) h) (fun _ q => h2 I (fun _ _ => rfl) (w_wr_o (fun z => lt_le q z.2.1)) h) (fun _ _ q => h2 I (fun _ _ => rfl) (w_wr_o (fun z => lt_le q z.2.2.1)) h) (fun a1 a2 a3 a4 q => ?_) (fun a1 a2 a3 a4 q => ?_) (fun _ _ _ q => h2 I (fun _ _ => rfl) (w_wr_o (fun z => q z.2.2.2)) h)
  · obtain ⟨per, v, hx, hy, p1, p2, v3⟩ := w_xy a1 a2 a3 a4
    have := st per v hx hy p1 p2 v3 false (by rw [← hy, decide_eq_false q])
    rw [hx, hy]
    exact this
  · obtain ⟨per, v, hx, hy, p1, p2, v3⟩ := w_xy a1 a2 a3 a4
    have := st per v hx hy p1 p2 v3 true (by rw [← hy, decide_eq_true q])
    rw [hx, hy]
    exact this
