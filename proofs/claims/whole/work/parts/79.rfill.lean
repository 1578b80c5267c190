/-! read: the class fills its reel -/
theorem lw_mask : ∀ n, n < 8 → ((1 : Int64) <<< (Int32.toInt64 (8 * nI n) &&& 63)) - 1 = lN (2 ^ (8 * n) - 1) := by decide +kernel
theorem fn_low_id {v n : Nat} (hn : n ≤ 8) (hv : v < 256 ^ n) : fn_low (lN v) n = lN v := by
  unfold fn_low
  by_cases q : n = 8
  · rw [if_pos q]
  · have e : (2 : Nat) ^ (8 * n) = 256 ^ n := by rw [show (256 : Nat) = 2 ^ 8 from rfl, ← Nat.pow_mul]
    have hpow : 256 ^ n ≤ 256 ^ 7 := Nat.pow_le_pow_right (by decide) (by omega)
    have e7 : (256 : Nat) ^ 7 = 2 ^ 56 := by decide
    rw [if_neg q, lw_mask n (by omega), wb_mask (by omega) (by omega), e, Nat.mod_eq_of_lt hv]
theorem r_upS {α : Type} {f : Nat → α} {i : Nat} {v : α} (h : f i = v) : va_up f i v = f := by
  funext j
  by_cases q : j = i
  · rw [q, aj_up_eq, h]
  · rw [aj_up_ne q]
theorem s_du_lt {q v : Nat → Nat} {M j : Nat} (hv : ∀ e, e < M → v e < 2 ^ 31) : ∀ e, e ≤ M → s_du q v j e < 2 ^ 31
  | 0, _ => (by decide : (0 : Nat) < 2 ^ 31)
  | e + 1, he => by
    show (if fn_sum q e ≤ j ∧ j < fn_sum q (e + 1) then v e else s_du q v j e) < _
    split
    · exact hv e (by omega)
    · exact s_du_lt hv e (by omega)
theorem s_D_lt {b : Nat → Nat} {w : Bool} {ct st : Nat → Nat} (hr : s_ok b w ct st) (i : Nat) : s_D b w ct i < 2 ^ 31 := by
  have r0 := hr 0 (by decide)
  exact s_du_lt (fun e he => ((r0.2.2 e he).2.1 rfl).2) _ (Nat.le_refl _)
section RX
variable {Z : aj_Z} {I : aj_I} {G : aj_G} {Q : aj_Q} {len : Nat} {b : Nat → Nat} {s : r_ps} {d mc ms : Nat}
theorem T_lowestFirst0 (hz : zAll Z) (hf : fC I 17 18 len b) {p : Nat} (hp : p < 2 ^ 62) (hQ : Q (some (.long (lN 0))) Z I G) : aj_T (d + 1) mc ms 87 [.ref 17, .long (lN p), .int (nI 0)] Z I G Q := by
  refine t_87 fun J hJ => b_87_0 hJ (fun h => ?_) (zk_17 hz) (fun _ _ => ?_) (fun _ _ => hQ)
  · rw [show (0 : Int64) = lN 0 from rfl, l_lt (by omega) (by decide)] at h
    omega
  · exact b_87_29 hJ (fun _ => hQ) (zk_17 hz) (zr_17_0 hz) (zk_18 hz) (fun h => absurd sm_m1 h) (fun h => absurd sm_m1 h)
/-- the samples of track t in mathematical words -/
noncomputable def s_dat (b : Nat → Nat) (s : r_ps) (t i : Nat) : Int64 := lN (fn_lf b (s_G b (ps_wd s t) (ps_ct s t) i) (s_S b (ps_wd s t) (ps_ct s t) i))
theorem T_fillTrack (hz : zAll Z) (hf : fC I 17 18 len b) {t : Nat} (ht : t < 3) (hot : s_oks b s t) (hat : s_agrs b s t) (hin : s_ins b s t) (hlo : (ps_m s).2.2.2 ≤ len) (hu : uC I G b s t) (h3 : I (5 + 4 * t) 3 = nI 0)
    (hQ : ∀ (I' : aj_I) (G' : aj_G), (∀ a, a ≠ 5 + 4 * t → a ≠ 5 + 4 * t + 1 → a ≠ 5 + 4 * t + 2 → I' a = I a) → (∀ a, a ≠ 5 + 4 * t + 3 → G' a = G a) → tC I' G' (5 + 4 * t) (s_n b (ps_ct s t)) (s_D b (ps_wd s t) (ps_ct s t)) (s_S b (ps_wd s t) (ps_ct s t)) (s_dat b s t) → Q none Z I' G') : aj_T (d + 3) mc ms 109 [.ref 19, .ref (5 + 4 * t), .ref (25 + 9 * t)] Z I G Q := by
  have hTB := zTB_t hz ht
  have hTr := zTr_t hz ht
  have hn16 := hat.2.1
  refine t_109 fun J hJ => b_109_0 hJ ?_
  have key : ∀ (m i : Nat) (w4 : Option Value) (I1 : aj_I) (G1 : aj_G), m + i = s_n b (ps_ct s t) → (∀ a, a ≠ 5 + 4 * t → a ≠ 5 + 4 * t + 1 → a ≠ 5 + 4 * t + 2 → I1 a = I a) → (∀ a, a ≠ 5 + 4 * t + 3 → G1 a = G a) → tC I1 G1 (5 + 4 * t) i (s_D b (ps_wd s t) (ps_ct s t)) (s_S b (ps_wd s t) (ps_ct s t)) (s_dat b s t) → J 2 [some (.ref 19), some (.ref (5 + 4 * t)), some (.ref (25 + 9 * t)), some (.int (nI i)), w4] [] Z I1 G1 (0, 0) := by
    intro m
    induction m with
    | zero =>
      intro i w4 I1 G1 hi hfr hg htc
      have hi : i = s_n b (ps_ct s t) := by omega
      have hst : I1 (25 + 9 * t) 4 ≤ nI i := by rw [hfr _ (by omega) (by omega) (by omega), hu.1]; exact nI_le (by omega) (by omega)
      rw [hi] at htc
      exact b_109_2 hJ hTB.1 (fun _ => hQ I1 G1 hfr hg htc) hTB.2.2.2.1 hTB.2.2.2.2.2.2.2.1 (fun z => absurd hst z) hTB.2.2.1 hTB.2.2.2.2.2.2.1 (fun z => absurd hst z) (zk_19 hz) (zr_19_0 hz) hTB.2.2.2.2.1 hTB.2.2.2.2.2.2.2.2.1 (fun z => absurd hst z) (zk_17 hz) (fun z => absurd hst z)
    | succ m ih =>
      intro i w4 I1 G1 hi hfr hg htc
      have hil : i < s_n b (ps_ct s t) := by omega
      have hnst : ¬ I1 (25 + 9 * t) 4 ≤ nI i := by rw [hfr _ (by omega) (by omega) (by omega), hu.1]; exact nI_ge (by omega) (by omega)
      have hx := hu.2 i hil
      have eS : I1 (25 + 9 * t + 3) (nI i).toNatClampNeg = nI (s_S b (ps_wd s t) (ps_ct s t) i) := by rw [hfr _ (by omega) (by omega) (by omega), nI_clamp (by omega)]; exact hx.2.1
      have eD : I1 (25 + 9 * t + 2) (nI i).toNatClampNeg = nI (s_D b (ps_wd s t) (ps_ct s t) i) := by rw [hfr _ (by omega) (by omega) (by omega), nI_clamp (by omega)]; exact hx.1
      have eG : G1 (25 + 9 * t + 4) (nI i).toNatClampNeg = lN (s_G b (ps_wd s t) (ps_ct s t) i) := by rw [hg _ (by omega), nI_clamp (by omega)]; exact hx.2.2
      have hs8 := hat.2.2.2.2.1 i hil
      have hglt := s_G_lt hot hat hil
      have hD := s_D_lt hot i
      have hf1 : fC I1 17 18 len b := hf.same (hfr 17 (by omega) (by omega) (by omega)) (hfr 18 (by omega) (by omega) (by omega))
      have vin : vp_in (nI i) 16 := vp_in_nI (by omega) (by decide)
      -- what the file holds there, kept
      have put : (0 < s_S b (ps_wd s t) (ps_ct s t) i → s_G b (ps_wd s t) (ps_ct s t) i + s_S b (ps_wd s t) (ps_ct s t) i ≤ len) → J 40 [some (.ref 19), some (.ref (5 + 4 * t)), some (.ref (25 + 9 * t)), some (.int (nI i)), some (.int (nI (s_S b (ps_wd s t) (ps_ct s t) i)))] [.long (s_dat b s t i), .int (nI (s_D b (ps_wd s t) (ps_ct s t) i)), .ref (5 + 4 * t)] Z I1 G1 (0, 0) := by
        intro hpl
        refine b_109_40 hJ hTr.1 (T_addSample hTr htc (by omega) hD hs8 (fun I2 G2 hfr2 hg2 htc2 => b_109_45 hJ ?_))
        rw [nI_1]
        have elow : fn_low (s_dat b s t i) (s_S b (ps_wd s t) (ps_ct s t) i) = s_dat b s t i := by
          unfold s_dat
          refine fn_low_id hs8 (fn_lf_lt _ _ (fun j hj => ?_))
          exact (hf.2.2 _ (by have := hpl (by omega); omega)).1
        rw [elow, r_upS (f := s_D b (ps_wd s t) (ps_ct s t)) (i := i) rfl, r_upS (f := s_S b (ps_wd s t) (ps_ct s t)) (i := i) rfl, r_upS (f := s_dat b s t) (i := i) rfl] at htc2
        exact ih (i + 1) _ I2 G2 (by omega) (fun a a1 a2 a3 => by rw [hfr2 a a1 a2 a3]; exact hfr a a1 a2 a3) (fun a a1 => by rw [hg2 a a1]; exact hg a a1) htc2
      refine b_109_2 hJ hTB.1 (fun z => absurd z hnst) hTB.2.2.2.1 hTB.2.2.2.2.2.2.2.1 (fun _ => vin) hTB.2.2.1 hTB.2.2.2.2.2.2.1 (fun _ => vin) (zk_19 hz) (zr_19_0 hz) hTB.2.2.2.2.1 hTB.2.2.2.2.2.2.2.2.1 (fun _ => vin) (zk_17 hz) (fun _ => ?_)
      rw [eS, eD, eG]
      by_cases q : 0 < s_S b (ps_wd s t) (ps_ct s t) i
      · have hle := (hin i hil q).2
        exact T_lowestFirst (zBR_f hz) hf1 (by omega) hs8 (put (fun _ => by omega))
      · have e0 : s_S b (ps_wd s t) (ps_ct s t) i = 0 := by omega
        have ed : s_dat b s t i = lN 0 := by unfold s_dat; rw [e0]; rfl
        have := put (fun z => absurd z q)
        rw [ed, e0] at this
        rw [e0]
        exact T_lowestFirst0 hz hf1 (by omega) this
  exact key (s_n b (ps_ct s t)) 0 _ I G (Nat.add_zero _) (fun _ _ _ _ => rfl) (fun _ _ => rfl) ⟨h3, by decide, fun i hi => absurd hi (Nat.not_lt_zero _)⟩
theorem T_fillReel (hz : zAll Z) (hf : fC I 17 18 len b) (hfd : ps_fd s ≤ 3) (h10 : I 21 10 = nI (ps_fd s)) (hok : ∀ t, t < ps_fd s → s_oks b s t) (hag : ∀ t, t < ps_fd s → s_agrs b s t) (hu : ∀ t, t < ps_fd s → uC I G b s t ∧ s_ins b s t) (hlo : (ps_m s).2.2.2 ≤ len)
    (hQ : ∀ (I' : aj_I) (G' : aj_G), (∀ a, 17 ≤ a → I' a = I a ∧ G' a = G a) → rC I' G' (ps_fd s) (fun t => s_n b (ps_ct s t)) (fun t i => s_D b (ps_wd s t) (ps_ct s t) i) (fun t i => s_S b (ps_wd s t) (ps_ct s t) i) (s_dat b s) → Q none Z I' G') : aj_T (d + 4) mc ms 108 [.ref 19, .ref 3] Z I G Q := by
  refine t_108 fun J hJ => b_108_0 hJ (zk_3 hz) (t_114 fun J2 hJ2 => b_114_0 hJ2 (zk_3 hz) (b_108_4 hJ ?_))
  have key : ∀ (m t : Nat) (w3 : Option Value) (I1 : aj_I) (G1 : aj_G), m + t = ps_fd s → (∀ a, 17 ≤ a → I1 a = I a ∧ G1 a = G a) → rC I1 G1 t (fun t => s_n b (ps_ct s t)) (fun t i => s_D b (ps_wd s t) (ps_ct s t) i) (fun t i => s_S b (ps_wd s t) (ps_ct s t) i) (s_dat b s) → J 7 [some (.ref 19), some (.ref 3), some (.int (nI t)), w3] [] Z I1 G1 (0, 0) := by
    intro m
    induction m with
    | zero =>
      intro t w3 I1 G1 ht hfr hr
      have ht : t = ps_fd s := by omega
      subst ht
      refine b_108_7 hJ (zk_19 hz) (zr_19_2 hz) (zk_21 hz) (fun _ => hQ I1 G1 hfr hr) (zk_3 hz) (fun z => ?_)
      rw [(hfr 21 (by omega)).1, h10] at z
      exact absurd (nI_le (Nat.le_refl _) (by omega)) z
    | succ m ih =>
      intro t w3 I1 G1 ht hfr hr
      refine b_108_7 hJ (zk_19 hz) (zr_19_2 hz) (zk_21 hz) (fun z => ?_) (zk_3 hz) (fun _ => ?_)
      · rw [(hfr 21 (by omega)).1, h10] at z
        exact absurd z (nI_ge (by omega) (by omega))
      · refine T_openTrack hz hr (by omega) (fun I2 hfr2 hr2 => b_108_23 hJ (zk_3 hz) (T_find hz hr2 (fun u hu2 eu => ?_) (fun hno => absurd rfl (hno t (by omega)))))
        have eu : t = u := (nI_eq (by omega) (by omega)).mp eu
        subst eu
        have hf2 : fC I2 17 18 len b := hf.same (by rw [hfr2 17 (by omega) (by omega)]; exact (hfr 17 (by omega)).1) (by rw [hfr2 18 (by omega) (by omega)]; exact (hfr 18 (by omega)).1)
        have hut := hu t (by omega)
        have hu2' : uC I2 G1 b s t := by
          have := hut.1
          unfold uC at this ⊢
          rw [hfr2 (25 + 9 * t) (by omega) (by omega), hfr2 (25 + 9 * t + 2) (by omega) (by omega), hfr2 (25 + 9 * t + 3) (by omega) (by omega), (hfr (25 + 9 * t) (by omega)).1, (hfr (25 + 9 * t + 2) (by omega)).1, (hfr (25 + 9 * t + 3) (by omega)).1, (hfr (25 + 9 * t + 4) (by omega)).2]
          exact this
        have h3 : I2 (5 + 4 * t) 3 = nI 0 := by
          have := (hr2.2.2 t (by omega)).1
          rw [aj_up_eq] at this
          exact this
        refine b_108_26 hJ (zk_19 hz) (zr_19_2 hz) (zk_21 hz) (zr_21_2 hz) (zk_22 hz) (vp_in_nI (by omega) (by decide)) (by rw [nI_clamp (by omega)]; exact zrow_B hz (by omega)) ?_
        refine T_fillTrack hz hf2 (by omega) (hok t (by omega)) (hag t (by omega)) hut.2 hlo hu2' h3 (fun I3 G3 hfr3 hg3 htc => b_108_45 hJ ?_)
        rw [nI_1]
        refine ih (t + 1) _ I3 G3 (by omega) (fun a ha => ⟨by rw [hfr3 a (by omega) (by omega) (by omega), hfr2 a (by omega) (by omega)]; exact (hfr a ha).1, by rw [hg3 a (by omega)]; exact (hfr a ha).2⟩) ⟨by rw [hfr3 3 (by omega) (by omega) (by omega)]; exact hr2.1, by omega, fun v hv => ?_⟩
        by_cases q : v = t
        · rw [q]; exact htc
        · have := hr2.2.2 v hv
          rw [aj_up_ne q] at this
          exact this.same (hfr3 _ (by omega) (by omega) (by omega)) (hfr3 _ (by omega) (by omega) (by omega)) (hfr3 _ (by omega) (by omega) (by omega)) (hg3 _ (by omega))
  exact key (ps_fd s) 0 _ _ G (Nat.add_zero _) (fun a ha => ⟨aj_u2_ne (by omega), rfl⟩) ⟨aj_u2_at, by omega, fun t ht => absurd ht (Nat.not_lt_zero _)⟩
end RX
