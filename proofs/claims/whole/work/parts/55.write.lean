/-! write: the class's contract -/
theorem w_ck_le {c : Nat} {si : Nat → Nat} {per k : Nat} (hc : c ≤ 16) (hs : ∀ i, i < c → si i ≤ 8) : w_ck c si per k ≤ 128 := by
  have hce := w_ce_le (c := c) (per := per) (k := k)
  have := w_cb_le (si := si) (i := k * per) (w_ce c per k - k * per) (fun j hj => hs _ (by omega))
  unfold w_ck
  omega
theorem w_ct_le {c : Nat → Nat} {si : Nat → Nat → Nat} {per k n : Nat} (h : ∀ t, t < n → c t ≤ 16 ∧ ∀ i, i < c t → si t i ≤ 8) : ∀ t, t ≤ n → w_ct c si per k t ≤ 128 * t
  | 0, _ => Nat.le_refl _
  | t + 1, ht => by
    have h1 := w_ct_le (per := per) (k := k) h t (by omega)
    have h2 := w_ck_le (per := per) (k := k) (h t (by omega)).1 (h t (by omega)).2
    show w_ct c si per k t + w_ck (c t) (si t) per k ≤ _
    omega
theorem w_cn_le {c : Nat → Nat} {si : Nat → Nat → Nat} {per n : Nat} (hn : n ≤ 3) (h : ∀ t, t < n → c t ≤ 16 ∧ ∀ i, i < c t → si t i ≤ 8) : ∀ k, w_cn n c si per k ≤ 384 * k
  | 0 => Nat.le_refl _
  | k + 1 => by
    have h1 := w_cn_le (per := per) hn h k
    have h2 := w_ct_le (per := per) (k := k) h n (Nat.le_refl _)
    show w_cn n c si per k + w_ct c si per k n ≤ _
    omega
theorem w_moov_le {c : Nat → Nat} {du : Nat → Nat → Nat} {per n : Nat} {far : Bool} (hp : 1 ≤ per) (h : ∀ t, t < n → c t ≤ 16) : ∀ t, t ≤ n → w_moov c du per (w_pw far) t ≤ 8 + 500 * t
  | 0, _ => Nat.le_refl _
  | t + 1, ht => by
    have h1 := w_moov_le (du := du) (far := far) hp h t (by omega)
    have hc := h t (by omega)
    have h2 := w_rows_le (du t) (c t)
    have h3 := w_trn_le (c t) per
    have h4 := w_chk_le hc hp
    have h5 : w_pw far * w_chk (c t) per ≤ 8 * 16 := Nat.mul_le_mul (w_pw_le far).2 (by omega)
    show w_moov c du per (w_pw far) t + (8 + (76 + 8 * w_rows (du t) (c t) + 12 * w_trn (c t) per + 4 * c t + w_pw far * w_chk (c t) per)) ≤ _
    omega
noncomputable def w_tot (n : Nat) (c : Nat → Nat) (du si : Nat → Nat → Nat) (per : Nat) (far wide : Bool) : Nat := w_moov c du per (w_pw far) n + w_hd wide + w_cn n c si per 16
noncomputable def w_pl (n : Nat) (c : Nat → Nat) (du si : Nat → Nat → Nat) (per : Nat) (far wide : Bool) (t k : Nat) : Nat := w_moov c du per (w_pw far) n + w_hd wide + w_cn n c si per k + w_ct c si per k t
noncomputable def w_all (n : Nat) (c : Nat → Nat) (du si : Nat → Nat → Nat) (da : Nat → Nat → Int64) (per : Nat) (far wide : Bool) : List (Int64 × Nat) :=
  w_mv n c du si per far (w_pl n c du si per far wide) n ++ (w_mdh wide (w_hd wide + w_cn n c si per 16) ++ w_cnL n c si da per 16)
theorem w_all_wd (n : Nat) (c : Nat → Nat) (du si : Nat → Nat → Nat) (da : Nat → Nat → Int64) (per : Nat) (far wide : Bool) : f_wd (w_all n c du si da per far wide) = w_tot n c du si per far wide := by
  unfold w_all w_tot
  rw [f_wd_app, f_wd_app, w_mv_wd, w_mdh_wd, w_cnL_wd, Nat.add_assoc]
def f_z : Nat × (Nat → Nat) := (0, fun _ => 0)
noncomputable def w_wr (r : rl_t) (x y : Int32) : Option (Nat × (Nat → Nat)) :=
  if 1 ≤ x ∧ x ≤ 16 ∧ 0 ≤ y ∧ y ≤ 3 ∧ w_tot r.1 r.2.1 r.2.2.1 r.2.2.2.1 x.toNatClampNeg (decide (y &&& 1 = 1)) (decide (y &&& 2 = 2)) ≤ 1200 then
    some (f_ps f_z (w_all r.1 r.2.1 r.2.2.1 r.2.2.2.1 r.2.2.2.2 x.toNatClampNeg (decide (y &&& 1 = 1)) (decide (y &&& 2 = 2)))) else none
section WW
variable {Z : aj_Z} {I : aj_I} {G : aj_G} {Q : aj_Q} {n : Nat} {c : Nat → Nat} {du si : Nat → Nat → Nat} {da : Nat → Nat → Int64} {len : Nat} {b : Nat → Nat} {pl : Int32} {per : Nat} {far wide : Bool} {d mc ms : Nat}
theorem T_writeReel (hz : zAll Z) (h : cS I G n c du si da len b pl) {y : Int32} (hp1 : 1 ≤ per) (hp2 : per ≤ 16) (hfar : (y &&& 1) = 0 ↔ far = false) (hwide : (y &&& 2) = 0 ↔ wide = false)
    (h1 : ∀ I' : aj_I, (∀ a, 54 ≤ a → I' a = I a) → w_tot n c du si per far wide ≤ 1200 → cS I' G n c du si da (f_ps f_z (w_all n c du si da per far wide)).1 (f_ps f_z (w_all n c du si da per far wide)).2 pl → Q (some (.int (nI (f_ps f_z (w_all n c du si da per far wide)).1))) Z I' G)
    (h2 : ∀ I' : aj_I, (∀ a, 54 ≤ a → I' a = I a) → ¬ w_tot n c du si per far wide ≤ 1200 → cS I' G n c du si da len b pl → Q (some (.int 0)) Z I' G) : aj_T (d + 7) mc ms 155 [.ref 52, .int (nI per), .int y] Z I G Q := by
  have hn := h.1.2.1
  have hcc : ∀ t, t < n → c t ≤ 16 ∧ ∀ i, i < c t → si t i ≤ 8 := fun t ht => ⟨(h.1.2.2 t ht).2.1, fun i hi => ((h.1.2.2 t ht).2.2 i hi).2.2.2.1⟩
  have bm := w_moov_le (du := du) (far := far) hp1 (fun t ht => (hcc t ht).1) n (Nat.le_refl _)
  have bn := w_cn_le (per := per) hn hcc 16
  have bh : w_hd wide ≤ 16 := by cases wide <;> decide
  have e1 : (if (1 : Int32) < nI per then nI per else 1) = nI per := by
    by_cases q : per = 1
    · subst q; rfl
    · exact if_pos (nI_lt (a := 1) (b := per) (by omega) (by omega))
  refine t_155 fun J hJ => ?_
  have tail : ∀ (I3 : aj_I) (w1 w2 w4 : Option Value), (∀ a, a ≠ 52 → a ≠ 53 → I3 a = I a) → zW I3 per far wide → (∀ t k, t < n → k < 16 → I3 53 (t * 16 + k) = nI (w_pl n c du si per far wide t k)) → J 64 [some (.ref 52), w1, w2, some (.int (nI (w_moov c du per (w_pw far) n))), w4] [.int (nI (w_tot n c du si per far wide))] Z I3 G (0, 0) := by
    intro I3 w1 w2 w4 hf3 hw3 hp3
    have hb : w_tot n c du si per far wide < 2 ^ 31 := by unfold w_tot; omega
    have hc3 : cS I3 G n c du si da len b pl := ⟨h.1.same (fun a _ _ => hf3 a (by omega) (by omega)) (fun _ _ _ => rfl), h.2.1.same (hf3 17 (by decide) (by decide)) (hf3 18 (by decide) (by decide)), by rw [hf3 20 (by decide) (by decide)]; exact h.2.2⟩
    refine b_155_64 hJ (zk_52 hz) (zr_52_1 hz) (zk_17 hz) (fun hle => ?_) (fun hle => ?_)
    · have hle : w_tot n c du si per far wide ≤ 1200 := (nI_leI (b := 1200) hb (by decide)).mp hle
      have hle2 : w_moov c du per (w_pw far) n + w_hd wide + w_cn n c si per 16 ≤ 1200 := hle
      refine T_keepFirst (zBR_f hz) hc3.2.1 (fun k I4 hk hk0 hf4 hc4 => ?_) (fun hno => absurd rfl (hno 0 (Nat.zero_le _)))
      have hk0 : 0 = k := (nI_eq (a := 0) (by decide) (by have := hc3.2.1.2.1; omega)).mp hk0
      subst hk0
      have h4 : eF I3 I4 f_z := ⟨fun a a1 a2 => hf4 a a1, hc4.1, by decide, fun j hj => absurd hj (Nat.not_lt_zero _)⟩
      refine b_155_84 hJ (zk_52 hz) (T_writeMoov (pl := w_pl n c du si per far wide) hz hc3.1 hw3 (fun t k ht hk => ⟨hp3 t k ht hk, ?_⟩) h4 (by show 0 + _ ≤ _; omega) (fun I5 h5 => b_155_90 hJ (zk_52 hz) ?_))
      · have m1 := w_cn_mono n c si per (k := k) (16 - k)
        rw [show k + (16 - k) = 16 by omega] at m1
        have m2 := w_ct_le (per := per) (k := k) hcc t (by omega)
        unfold w_pl
        omega
      · rw [pk_sub (show w_moov c du per (w_pw far) n ≤ w_tot n c du si per far wide by unfold w_tot; omega), show w_tot n c du si per far wide - w_moov c du per (w_pw far) n = w_hd wide + w_cn n c si per 16 by unfold w_tot; omega]
        refine T_writeMdat hz hc3.1 hw3 (by omega) h5 ?_ (fun I6 h6 => b_155_98 hJ (zk_52 hz) (zr_52_1 hz) (zk_17 hz) (T_byteCount (zBR_f hz) h6.2 (b_155_105 hJ ?_)))
        · rw [f_ps_1, w_mv_wd]; show 0 + _ + _ + _ ≤ _; omega
        · have e : f_ps (f_ps (f_ps f_z (w_mv n c du si per far (w_pl n c du si per far wide) n)) (w_mdh wide (w_hd wide + w_cn n c si per 16))) (w_cnL n c si da per 16) = f_ps f_z (w_all n c du si da per far wide) := by
            unfold w_all
            rw [f_ps_app, f_ps_app]
          rw [e] at h6 ⊢
          exact h1 I6 (fun a ha => by rw [h6.1 a (by omega) (by omega), hf3 a (by omega) (by omega)]) hle ⟨h6.rl hc3.1, h6.2, by rw [h6.1 20 (by decide) (by decide)]; exact hc3.2.2⟩
    · exact h2 I3 (fun a ha => hf3 a (by omega) (by omega)) (fun q => hle (nI_le (b := 1200) q (by decide))) hc3
  have mid : ∀ (I1 : aj_I) (w1 w3 w4 : Option Value), (∀ a, a ≠ 52 → I1 a = I a) → I1 52 3 = nI per → J 21 [some (.ref 52), w1, some (.int y), w3, w4] [.int (if far then 1 else 0), .ref 52] Z I1 G (0, 0) := by
    intro I1 w1 w3 w4 hf1 he1
    have go : ∀ (I2 : aj_I), I2 = aj_u2 (aj_u2 I1 52 4 (if far then 1 else 0)) 52 5 (if wide then 1 else 0) → aj_T (d + 6) 0 0 166 [.ref 52] Z I2 G (fun r Z1 I1 G1 => J 43 [some (.ref 52), w1, some (.int y), w3, w4] (r.toList ++ []) Z1 I1 G1 (0, 0)) := by
      intro I2 hI2
      have hf2 : ∀ a, a ≠ 52 → I2 a = I a := fun a ha => by rw [hI2, aj_u2_ne ha, aj_u2_ne ha]; exact hf1 a ha
      have hw2 : zW I2 per far wide := by
        refine ⟨?_, hp1, hp2, ?_, ?_⟩
        · rw [hI2, aj_u2_n2 (by decide), aj_u2_n2 (by decide)]; exact he1
        · rw [hI2, aj_u2_n2 (by decide), aj_u2_at]
        · rw [hI2, aj_u2_at]
      have hr2 : rC I2 G n c du si da := h.1.same (fun a _ _ => hf2 a (by omega)) (fun _ _ _ => rfl)
      refine T_moovSize hz hr2 hw2 ?_
      have lay : aj_T (d + 6) 0 0 167 [.ref 52, .int (nI (w_moov c du per (w_pw far) n + w_hd wide))] Z I2 G (fun r Z1 I1 G1 => J 64 [some (.ref 52), w1, (aj_clr (some (.int y))), some (.int (nI (w_moov c du per (w_pw far) n))), w4] (r.toList ++ []) Z1 I1 G1 (0, 0)) :=
        T_layChunks hz hr2 hw2 (fun I3 hf3 hp3 => tail I3 _ _ _ (fun a a1 a2 => by rw [hf3 a a2]; exact hf2 a a1) (by unfold zW at hw2 ⊢; rw [hf3 52 (by decide)]; exact hw2) hp3)
      refine b_155_43 hJ (zk_52 hz) (fun q => ?_) (fun q => ?_)
      · rw [hw2.2.2.2.2] at q
        cases wide
        · rw [show nI (w_moov c du per (w_pw far) n) + 8 = nI (w_moov c du per (w_pw far) n + 8) from nI_add _ 8]
          exact lay
        · exact absurd q (by decide)
      · rw [hw2.2.2.2.2] at q
        cases wide
        · exact absurd rfl q
        · rw [show nI (w_moov c du per (w_pw far) n) + 16 = nI (w_moov c du per (w_pw far) n + 16) from nI_add _ 16]
          exact lay
    refine b_155_21 hJ (zk_52 hz) ?_ (zk_52 hz) (fun q => ?_) (fun q => ?_)
    · cases far
      · exact Or.inl rfl
      · exact Or.inr rfl
    · exact go _ (by rw [hwide.mp q]; rfl)
    · cases hwd : wide
      · exact absurd (hwide.mpr hwd) q
      · exact go _ (by rw [hwd]; rfl)
  refine b_155_0 hJ (zk_52 hz) (fun q => ?_) (fun q => ?_)
  · rw [e1]
    have := mid (aj_u2 I 52 3 (nI per)) (some (.int (nI per))) none none (fun a ha => aj_u2_ne ha) aj_u2_at
    rw [hfar.mp q] at this
    exact this
  · rw [e1]
    have := mid (aj_u2 I 52 3 (nI per)) (some (.int (nI per))) none none (fun a ha => aj_u2_ne ha) aj_u2_at
    cases hfr : far
    · exact absurd (hfar.mpr hfr) q
    · rw [hfr] at this
      exact this
end WW
theorem w_y4 {v : Nat} (hv : v ≤ 3) : ((nI v &&& 1 = 0 ↔ decide (nI v &&& 1 = 1) = false) ∧ (nI v &&& 2 = 0 ↔ decide (nI v &&& 2 = 2) = false)) := by
  rcases (show v = 0 ∨ v = 1 ∨ v = 2 ∨ v = 3 by omega) with h | h | h | h <;> subst h <;> decide
theorem w_wr_y {r : rl_t} {per v : Nat} (hp1 : 1 ≤ per) (hp2 : per ≤ 16) (hv : v ≤ 3) (ht : w_tot r.1 r.2.1 r.2.2.1 r.2.2.2.1 per (decide (nI v &&& 1 = 1)) (decide (nI v &&& 2 = 2)) ≤ 1200) : w_wr r (nI per) (nI v) = some (f_ps f_z (w_all r.1 r.2.1 r.2.2.1 r.2.2.2.1 r.2.2.2.2 per (decide (nI v &&& 1 = 1)) (decide (nI v &&& 2 = 2)))) := by
  unfold w_wr
  rw [nI_clamp (show per < 2 ^ 31 by omega)]
  exact if_pos ⟨nI_le (a := 1) hp1 (by omega), nI_le (b := 16) hp2 (by decide), nI_le (a := 0) (Nat.zero_le _) (by omega), nI_le (b := 3) hv (by decide), ht⟩
theorem w_wr_n {r : rl_t} {per v : Nat} (hp2 : per ≤ 16) (ht : ¬ w_tot r.1 r.2.1 r.2.2.1 r.2.2.2.1 per (decide (nI v &&& 1 = 1)) (decide (nI v &&& 2 = 2)) ≤ 1200) : w_wr r (nI per) (nI v) = none := by
  unfold w_wr
  rw [nI_clamp (show per < 2 ^ 31 by omega)]
  exact if_neg (fun q => ht q.2.2.2.2)
theorem w_wr_o {r : rl_t} {x y : Int32} (h : ¬ (1 ≤ x ∧ x ≤ 16 ∧ 0 ≤ y ∧ y ≤ 3)) : w_wr r x y = none := if_neg (fun q => h ⟨q.1, q.2.1, q.2.2.1, q.2.2.2.1⟩)
theorem w_xy {x y : Int32} (a1 : ¬ x < 1) (a2 : ¬ 16 < x) (a3 : ¬ y < 0) (a4 : y ≤ 3) : ∃ per v : Nat, x = nI per ∧ y = nI v ∧ 1 ≤ per ∧ per ≤ 16 ∧ v ≤ 3 := by
  have hx0 : ¬ x < 0 := fun q => a1 (by rw [Int32.lt_iff_toInt_lt] at q ⊢; have : (0 : Int32).toInt = 0 := rfl; have : (1 : Int32).toInt = 1 := rfl; omega)
  obtain ⟨per, hp, rfl⟩ := nI_of hx0
  obtain ⟨v, hv, rfl⟩ := nI_of a3
  refine ⟨per, v, rfl, rfl, ?_, ?_, (nI_leI (b := 3) hv (by decide)).mp a4⟩
  · exact Nat.not_lt.mp (fun q => a1 (nI_lt (b := 1) q (by decide)))
  · exact Nat.not_lt.mp (fun q => a2 (nI_lt (a := 16) q (by omega)))
theorem C_write : WC w_wr := by
  intro Z I G Q n c du si da len b pl x y hz h h1 h2
  have lt_le : ∀ {a b : Int32}, a < b → ¬ b ≤ a := fun h1 h2 => by rw [Int32.lt_iff_toInt_lt] at h1; rw [Int32.le_iff_toInt_le] at h2; omega
  refine t_4 fun J hJ => b_4_0 hJ (fun q => h2 I (fun _ _ => rfl) (w_wr_o (fun z => lt_le q z.1)) h) (fun _ q => h2 I (fun _ _ => rfl) (w_wr_o (fun z => lt_le q z.2.1)) h) (fun _ _ q => h2 I (fun _ _ => rfl) (w_wr_o (fun z => lt_le q z.2.2.1)) h) (zk_2 hz) (zr_2_3 hz) (zk_52 hz) (fun a1 a2 a3 a4 => ?_) (fun _ _ _ q => h2 I (fun _ _ => rfl) (w_wr_o (fun z => q z.2.2.2)) h)
  obtain ⟨per, v, rfl, rfl, p1, p2, v3⟩ := w_xy a1 a2 a3 a4
  refine T_writeReel (d := 1) hz h p1 p2 (w_y4 v3).1 (w_y4 v3).2 (fun I' hf ht hc => b_4_31 hJ (h1 I' _ _ hf (w_wr_y p1 p2 v3 ht) hc)) (fun I' hf ht hc => b_4_31 hJ (h2 I' hf (w_wr_n p2 ht) hc))
