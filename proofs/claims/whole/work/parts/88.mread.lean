/-! read: the reference's samples, and its contract -/
theorem dv_16 : ∀ x, x < 48 → nI x / 16 = nI (x / 16) ∧ nI x - nI x / 16 * 16 = nI (x % 16) := by decide +kernel
section MI
variable {Z : aj_Z} {I : aj_I} {G : aj_G} {Q : aj_Q} {len : Nat} {b : Nat → Nat} {s : r_ps} {d mc ms : Nat}
def uMs (I : aj_I) (G : aj_G) (b : Nat → Nat) (s : r_ps) (t : Nat) : Prop := uM I G b t (ps_wd s t) (ps_ct s t)
theorem M_readSamples (hz : zAll Z) (hf : mF I len b) (hB : r_B len 0 s) (hm : (ps_m s).2.1 = true) (hM : fmT I s) (hok : ∀ t, t < ps_fd s → s_oks b s t)
    (h0 : ∀ (k p : Int32) (I' : aj_I) (G' : aj_G), (r_f6 b s 0 (ps_fd s) = some (k, p) ∨ r_f6 b s 0 (ps_fd s) = none ∧ r_f7 b s 0 (ps_fd s) = some (k, p)) → k ≠ 0 → (∀ a, a ≠ 67 → a ≠ 68 → a ≠ 69 → I' a = I a) → (∀ a, a ≠ 70 → G' a = G a) → Q (some (.int k)) Z (aj_u2 I' 54 7 p) G')
    (h1 : ∀ (I' : aj_I) (G' : aj_G), r_f6 b s 0 (ps_fd s) = none → r_f7 b s 0 (ps_fd s) = none → (∀ a, a ≠ 67 → a ≠ 68 → a ≠ 69 → I' a = I a) → (∀ a, a ≠ 70 → G' a = G a) → (∀ t, t < ps_fd s → s_agrs b s t ∧ s_ins b s t ∧ uMs I' G' b s t) → Q (some (.int 0)) Z I' G') : aj_T (d + 6) mc ms 65 [.ref 54] Z I G Q := by
  have hfd := hB.1
  have hlen := hf.2.1
  have h15 := hM.2.2.2.1
  have h134 := hM.2.2.1 hm
  have hmb := hB.2.2.1 hm
  refine t_65 fun J hJ => b_65_0 hJ ?_
  -- the samples, track by track
  have find : r_f6 b s 0 (ps_fd s) = none → (∀ t, t < ps_fd s → s_agrs b s t) → ∀ (m t : Nat) (I1 : aj_I) (G1 : aj_G), m + t = ps_fd s → r_f7 b s 0 (ps_fd s) = r_f7 b s t m → (∀ a, a ≠ 67 → a ≠ 68 → a ≠ 69 → I1 a = I a) → (∀ a, a ≠ 70 → G1 a = G a) → (∀ u, u < t → s_ins b s u ∧ uMs I1 G1 b s u) → J 39 [some (.ref 54), some (.int (nI t))] [] Z I1 G1 (0, 0) := by
    intro h6 hag m
    induction m with
    | zero =>
      intro t I1 G1 ht he hfr hg hall
      refine b_65_39 hJ (zk_54 hz) (fun _ => h1 I1 G1 h6 he hfr hg (fun u hu => ⟨hag u hu, (hall u (by omega)).1, (hall u (by omega)).2⟩)) (fun z => ?_)
      rw [hfr 54 (by decide) (by decide) (by decide), h15] at z
      exact absurd (nI_le (by omega) (by omega)) z
    | succ m ih =>
      intro t I1 G1 ht he hfr hg hall
      have ht3 : t < 3 := by omega
      have hot := hok t (by omega)
      have hat := hag t (by omega)
      have hf1 : mF I1 len b := hf.same (by rw [hfr 54 (by decide) (by decide) (by decide)]) (hfr 59 (by decide) (by decide) (by decide))
      have tk := (fm_tk hM hB (show t < ps_fd s by omega)).same (hfr 63 (by decide) (by decide) (by decide)) (hfr 64 (by decide) (by decide) (by decide)) (hfr 65 (by decide) (by decide) (by decide)) (hfr 66 (by decide) (by decide) (by decide))
      refine b_65_39 hJ (zk_54 hz) (fun z => ?_) (fun _ => ?_)
      · rw [hfr 54 (by decide) (by decide) (by decide), h15] at z
        exact absurd z (nI_ge (by omega) (by omega))
      · refine M_findSamples hz hf1 ht3 tk hot hat (fun I2 G2 hfr2 hg2 h67 hout hu => b_65_52 hJ (zk_54 hz) ?_)
        have hfr3 : ∀ a, a ≠ 67 → a ≠ 68 → a ≠ 69 → I2 a = I a := fun a a1 a2 a3 => by rw [hfr2 a a1 a2 a3]; exact hfr a a1 a2 a3
        have hg3 : ∀ a, a ≠ 70 → G2 a = G a := fun a a1 => by rw [hg2 a a1]; exact hg a a1
        have hold : ∀ u, u < t → s_ins b s u ∧ uMs I2 G2 b s u := fun u hu' => by
          refine ⟨(hall u hu').1, ?_⟩
          have ho := (hall u hu').2
          have hn16 := (hag u (by omega)).2.1
          refine ⟨by rw [h67 u (by omega)]; exact ho.1, fun j hj => ?_⟩
          have := ho.2 j hj
          have hq := hout (16 * u + j) (by omega)
          rw [hq.1, hq.2.1, hq.2.2]
          exact this
        refine M_allInData (lo := (ps_m s).2.2.1) (hi := (ps_m s).2.2.2) hz ht3 (by omega) (by omega) (by rw [hfr3 54 (by decide) (by decide) (by decide)]; exact h134.1) (by rw [hfr3 54 (by decide) (by decide) (by decide)]; exact h134.2) hat.2.1 hat.2.2.2.2.1 (fun i hi => s_G_lt hot hat hi) hu (fun a => b_65_57 hJ (fun _ => ?_) (zk_54 hz) (zr_54_17 hz) (zk_63 hz) (fun z => absurd z (by decide)) (fun z => absurd z (by decide))) (fun a => b_65_57 hJ (fun z => absurd rfl z) (zk_54 hz) (zr_54_17 hz) (zk_63 hz) (fun _ => ?_) (fun _ => ?_))
        · rw [nI_1]
          refine ih (t + 1) I2 G2 (by omega) (by rw [he]; exact r_f7_n a) hfr3 hg3 (fun u hu' => ?_)
          by_cases q : u = t
          · rw [q]; exact ⟨a, hu⟩
          · exact hold u (by omega)
        · rw [show (4 : Int32) * nI t + 3 = nI (4 * t + 3) from sm_4 t 3]; exact vp_in_nI (by omega) (by decide)
        · rw [show (4 : Int32) * nI t + 3 = nI (4 * t + 3) from sm_4 t 3, nI_clamp (by omega), hfr3 63 (by decide) (by decide) (by decide), ((fm_tk hM hB (show t < ps_fd s by omega)).2 3 (by decide)).1]
          exact M_tell hz (b_65_76 hJ (h0 7 _ I2 G2 (Or.inr ⟨h6, by rw [he]; exact r_f7_s a⟩) (by decide) hfr3 hg3))
  have key : ∀ (m t : Nat), m + t = ps_fd s → r_f6 b s 0 (ps_fd s) = r_f6 b s t m → (∀ u, u < t → s_agrs b s u) → J 2 [some (.ref 54), some (.int (nI t))] [] Z I G (0, 0) := by
    intro m
    induction m with
    | zero =>
      intro t ht he hall
      refine b_65_2 hJ (zk_54 hz) (fun _ => find he (fun u hu => hall u (by omega)) (ps_fd s) 0 I G (Nat.add_zero _) rfl (fun _ _ _ _ => rfl) (fun _ _ => rfl) (fun u hu => absurd hu (Nat.not_lt_zero _))) (fun z => ?_)
      rw [h15] at z
      exact absurd (nI_le (by omega) (by omega)) z
    | succ m ih =>
      intro t ht he hall
      have ht3 : t < 3 := by omega
      have tk := fm_tk hM hB (show t < ps_fd s by omega)
      refine b_65_2 hJ (zk_54 hz) (fun z => ?_) (fun _ => ?_)
      · rw [h15] at z
        exact absurd z (nI_ge (by omega) (by omega))
      · refine M_agrees hz hf ht3 tk (hok t (by omega)) (fun a => b_65_15 hJ (fun _ => ?_) (zk_54 hz) (zr_54_16 hz) (zk_62 hz) (fun z => absurd z (by decide)) (fun z => absurd z (by decide))) (fun a => b_65_15 hJ (fun z => absurd rfl z) (zk_54 hz) (zr_54_16 hz) (zk_62 hz) (fun _ => vp_in_nI (by omega) (by decide)) (fun _ => ?_))
        · rw [nI_1]
          refine ih (t + 1) (by omega) (by rw [he]; exact r_f6_n a) (fun u hu => ?_)
          by_cases q : u = t
          · rw [q]; exact a
          · exact hall u (by omega)
        · rw [nI_clamp (show t < 2 ^ 31 by omega), (hM.2.2.2.2 t (by omega)).1]
          exact M_tell hz (b_65_30 hJ (h0 6 _ I G (Or.inl (by rw [he]; exact r_f6_s a)) (by decide) (fun _ _ _ _ => rfl) (fun _ _ => rfl)))
  exact key (ps_fd s) 0 (Nat.add_zero _) rfl (fun u hu => absurd hu (Nat.not_lt_zero _))
theorem M_keep (hz : zAll Z) (hf : mF I len b) (hfd : ps_fd s ≤ 3) (h15 : I 54 15 = nI (ps_fd s)) (hok : ∀ t, t < ps_fd s → s_oks b s t) (hlo : (ps_m s).2.2.2 ≤ len) (hall : ∀ t, t < ps_fd s → s_agrs b s t ∧ s_ins b s t ∧ uMs I G b s t)
    (hQ : ∀ (I' : aj_I) (G' : aj_G), (∀ a, a < 54 ∨ 59 ≤ a → I' a = I a) → (∀ a, a ≠ 58 → G' a = G a) → (∀ j, j ≠ 0 → I' 54 j = I 54 j) → mR I' G' (ps_fd s) (fun t => s_n b (ps_ct s t)) (fun t i => s_D b (ps_wd s t) (ps_ct s t) i) (fun t i => s_S b (ps_wd s t) (ps_ct s t) i) (s_dat b s) → Q none Z I' G') : aj_T (d + 1) mc ms 66 [.ref 54] Z I G Q := by
  have hlen := hf.2.1
  refine t_66 fun J hJ => b_66_0 hJ (zk_54 hz) ?_
  rw [h15]
  -- sample by sample
  have samp : ∀ (I0 : aj_I), (∀ a, a ≠ 54 → a ≠ 55 → I0 a = I a) → (∀ j, j ≠ 0 → I0 54 j = I 54 j) → I0 54 0 = nI (ps_fd s) → (∀ t, t < ps_fd s → I0 55 t = nI (s_n b (ps_ct s t))) →
      ∀ (m x : Nat) (w2 w3 w4 w5 : Option Value) (I1 : aj_I) (G1 : aj_G), m + x = 48 → (∀ a, a ≠ 56 → a ≠ 57 → I1 a = I0 a) → (∀ a, a ≠ 58 → G1 a = G a) → (∀ t j, t < ps_fd s → j < s_n b (ps_ct s t) → 16 * t + j < x → I1 56 (16 * t + j) = nI (s_D b (ps_wd s t) (ps_ct s t) j) ∧ I1 57 (16 * t + j) = nI (s_S b (ps_wd s t) (ps_ct s t) j) ∧ G1 58 (16 * t + j) = s_dat b s t j) → J 38 [some (.ref 54), some (.int (nI x)), w2, w3, w4, w5] [] Z I1 G1 (0, 0) := by
    intro I0 hfr0 h540 h00 h550 m
    induction m with
    | zero =>
      intro x w2 w3 w4 w5 I1 G1 hx hI hG hdone
      have hst : (48 : Int32) ≤ nI x := nI_le (a := 48) (by omega) (by omega)
      refine b_66_38 hJ (fun _ => ?_) (zk_54 hz) (zr_54_2 hz) (zr_54_25 hz) (zk_68 hz) (fun z => absurd hst z) (zk_56 hz) (fun z => absurd hst z) (zr_54_3 hz) (zr_54_26 hz) (zk_69 hz) (fun z => absurd hst z) (zk_57 hz) (fun z => absurd hst z) (fun z => absurd hst z) (zr_54_24 hz) (zk_67 hz) (fun z => absurd hst z) (fun z => absurd hst z) (fun z => absurd hst z)
      refine hQ I1 G1 (fun a ha => by rw [hI a (by omega) (by omega)]; exact hfr0 a (by omega) (by omega)) hG (fun j hj => by rw [hI 54 (by decide) (by decide)]; exact h540 j hj) ⟨by rw [hI 54 (by decide) (by decide)]; exact h00, hfd, fun t ht => ⟨by rw [hI 55 (by decide) (by decide)]; exact h550 t ht, (hall t ht).1.2.1, fun i hi => ?_⟩⟩
      have hn16 := (hall t ht).1.2.1
      have hi : i < s_n b (ps_ct s t) := hi
      have := hdone t i ht hi (by omega)
      exact ⟨this.1, s_D_lt (hok t ht) i, this.2.1, (hall t ht).1.2.2.2.2.1 i hi, this.2.2⟩
    | succ m ih =>
      intro x w2 w3 w4 w5 I1 G1 hx hI hG hdone
      have hx48 : x < 48 := by omega
      have vx : vp_in (nI x) 48 := vp_in_nI (by omega) (by decide)
      have cx : (nI x).toNatClampNeg = x := nI_clamp (by omega)
      obtain ⟨ed, em⟩ := dv_16 x hx48
      have hIo : ∀ a, a ≠ 54 → a ≠ 55 → a ≠ 56 → a ≠ 57 → I1 a = I a := fun a a1 a2 a3 a4 => by rw [hI a a3 a4]; exact hfr0 a a1 a2
      -- the store with the two numbers in
      have uo : ∀ a, a ≠ 56 → a ≠ 57 → (aj_u2 (aj_u2 I1 56 x (I1 68 x)) 57 x (I1 69 x)) a = I1 a := fun a a1 a2 => by rw [aj_u2_ne a2, aj_u2_ne a1]
      have e15 : (aj_u2 (aj_u2 I1 56 x (I1 68 x)) 57 x (I1 69 x)) 54 15 = nI (ps_fd s) := by rw [uo 54 (by decide) (by decide), hI 54 (by decide) (by decide), h540 15 (by decide)]; exact h15
      -- behind the loop over the bytes
      have next : ∀ (v : Int64) (w2 w4 : Option Value) (x5 : Int32), x5 < 0 → (∀ t j, t < ps_fd s → j < s_n b (ps_ct s t) → 16 * t + j = x → v = s_dat b s t j) → J 121 [some (.ref 54), some (.int (nI x)), w2, some (.long v), w4, some (.int x5)] [] Z (aj_u2 (aj_u2 I1 56 x (I1 68 x)) 57 x (I1 69 x)) G1 (0, 0) := by
        intro v w2 w4 x5 h5 hv
        refine b_66_121 hJ (zk_54 hz) (zr_54_4 hz) (zk_58 hz) (fun _ => vx) (fun _ => ?_) (zr_54_6 hz) (zr_54_27 hz) (zk_70 hz) (fun z => absurd h5 z) (zk_59 hz) (fun z => absurd h5 z) (fun z => absurd h5 z)
        rw [cx, nI_1]
        refine ih (x + 1) _ _ _ _ _ _ (by omega) (fun a a1 a2 => by rw [uo a a1 a2]; exact hI a a1 a2) (fun a ha => by rw [aj_u2_ne ha]; exact hG a ha) (fun t j ht hj hlt => ?_)
        by_cases q : 16 * t + j = x
        · rw [q]
          have hu := (hall t ht).2.2.2 j hj
          rw [q] at hu
          rw [aj_u2_n1 (show 56 ≠ 57 by decide), aj_u2_at, aj_u2_at, aj_u2_at, hIo 68 (by decide) (by decide) (by decide) (by decide), hIo 69 (by decide) (by decide) (by decide) (by decide)]
          exact ⟨hu.1, hu.2.1, hv t j ht hj q⟩
        · rw [aj_u2_n1 (show 56 ≠ 57 by decide), aj_u2_n2 q, aj_u2_n2 q, aj_u2_n2 q, aj_u2_n1 (show 57 ≠ 56 by decide)]
          exact hdone t j ht hj (by omega)
      -- no sample there
      have none' : ∀ (w2 w3 w4 w5 : Option Value), (∀ t j, t < ps_fd s → j < s_n b (ps_ct s t) → 16 * t + j ≠ x) → J 99 [some (.ref 54), some (.int (nI x)), w2, w3, w4, w5] [] Z (aj_u2 (aj_u2 I1 56 x (I1 68 x)) 57 x (I1 69 x)) G1 (0, 0) := by
        intro w2 w3 w4 w5 hno
        exact b_66_99 hJ (b_66_100 hJ (fun _ => next 0 _ _ _ (by decide) (fun t j ht hj q => absurd q (hno t j ht hj))) (zk_54 hz) (zr_54_26 hz) (zk_69 hz) (fun z => absurd rfl z) (fun z => absurd rfl z))
      have hdm : x = 16 * (x / 16) + x % 16 := by omega
      refine b_66_38 hJ (fun z => absurd z (nI_ge (b := 48) (by omega) (by decide))) (zk_54 hz) (zr_54_2 hz) (zr_54_25 hz) (zk_68 hz) (fun _ => vx) (zk_56 hz) (fun _ => vx) (zr_54_3 hz) (zr_54_26 hz) (zk_69 hz) (fun _ => vx) (zk_57 hz) (fun _ => vx) (fun _ z => ?_) (zr_54_24 hz) (zk_67 hz) (fun _ z => ?_) (fun _ z y => ?_) (fun _ z y => ?_)
      · rw [cx, aj_u2_n1 (show 69 ≠ 56 by decide)] at z ⊢
        rw [e15, ed] at z
        have z := (nI_leI (by omega) (by omega)).mp z
        exact none' _ _ _ _ (fun t j ht hj q => by have := (hall t ht).1.2.1; omega)
      · rw [cx, aj_u2_n1 (show 69 ≠ 56 by decide), e15, ed] at z
        have z : x / 16 < ps_fd s := Nat.not_le.mp (fun y => z (nI_le y (by omega)))
        rw [ed]; exact vp_in_nI (by omega) (by decide)
      · rw [cx, aj_u2_n1 (show 69 ≠ 56 by decide)] at z y ⊢
        rw [e15, ed] at z
        have z : x / 16 < ps_fd s := Nat.not_le.mp (fun y => z (nI_le y (by omega)))
        rw [em, ed, nI_clamp (show x / 16 < 2 ^ 31 by omega), uo 67 (by decide) (by decide), hIo 67 (by decide) (by decide) (by decide) (by decide), (hall _ z).2.2.1] at y
        have hn16 := (hall _ z).1.2.1
        have y := (nI_leI (by omega) (by omega)).mp y
        refine none' _ _ _ _ (fun t j ht hj q => ?_)
        have h16 := (hall t ht).1.2.1
        have : t = x / 16 := by omega
        subst this
        omega
      · rw [cx, aj_u2_n1 (show 69 ≠ 56 by decide)] at z y ⊢
        rw [e15, ed] at z
        have z : x / 16 < ps_fd s := Nat.not_le.mp (fun y => z (nI_le y (by omega)))
        rw [em, ed, nI_clamp (show x / 16 < 2 ^ 31 by omega), uo 67 (by decide) (by decide), hIo 67 (by decide) (by decide) (by decide) (by decide), (hall _ z).2.2.1] at y
        have hn16 := (hall _ z).1.2.1
        have y : x % 16 < s_n b (ps_ct s (x / 16)) := Nat.not_le.mp (fun v => y (nI_le v (by omega)))
        have hu := (hall (x / 16) z).2.2.2 (x % 16) y
        rw [← hdm] at hu
        have hs8 := (hall (x / 16) z).1.2.2.2.2.1 (x % 16) y
        have hglt := s_G_lt (hok (x / 16) z) (hall (x / 16) z).1 y
        have hin := (hall (x / 16) z).2.1 (x % 16) y
        have e69 : (aj_u2 (aj_u2 I1 56 x (I1 68 x)) 57 x (I1 69 x)) 69 x = nI (s_S b (ps_wd s (x / 16)) (ps_ct s (x / 16)) (x % 16)) := by rw [uo 69 (by decide) (by decide), hIo 69 (by decide) (by decide) (by decide) (by decide)]; exact hu.2.1
        have e70 : G1 70 x = lN (s_G b (ps_wd s (x / 16)) (ps_ct s (x / 16)) (x % 16)) := by rw [hG 70 (by decide)]; exact hu.2.2
        have same : ∀ t j, t < ps_fd s → j < s_n b (ps_ct s t) → 16 * t + j = x → t = x / 16 ∧ j = (x % 16) := fun t j ht hj q => by
          have := (hall t ht).1.2.1
          omega
        refine b_66_100 hJ (fun v => absurd v (by decide)) (zk_54 hz) (zr_54_26 hz) (zk_69 hz) (fun _ => vx) (fun _ => ?_)
        rw [cx, e69]
        have inner : ∀ (k : Nat) (w2 w4 : Option Value), k ≤ s_S b (ps_wd s (x / 16)) (ps_ct s (x / 16)) (x % 16) → J 121 [some (.ref 54), some (.int (nI x)), w2, some (.long (lN (fn_lf b (s_G b (ps_wd s (x / 16)) (ps_ct s (x / 16)) (x % 16) + k) (s_S b (ps_wd s (x / 16)) (ps_ct s (x / 16)) (x % 16) - k)))), w4, some (.int (nI k - 1))] [] Z (aj_u2 (aj_u2 I1 56 x (I1 68 x)) 57 x (I1 69 x)) G1 (0, 0) := by
          intro k
          induction k with
          | zero =>
            intro w2 w4 _
            refine next _ _ _ _ sm_m1 (fun t j ht hj q => ?_)
            obtain ⟨q1, q2⟩ := same t j ht hj q
            subst q1 q2
            rfl
          | succ k ih2 =>
            intro w2 w4 hk
            have hpl := (hin (by omega)).2
            have e59 : ∀ i, i < len → (aj_u2 (aj_u2 I1 56 x (I1 68 x)) 57 x (I1 69 x)) 59 i = nI (b i) := fun i hi => by rw [uo 59 (by decide) (by decide), hIo 59 (by decide) (by decide) (by decide) (by decide)]; exact (hf.2.2 i hi).2
            have npos : ¬ nI (k + 1) - 1 < 0 := by rw [nI_pred]; exact nI_pos (by omega)
            refine b_66_121 hJ (zk_54 hz) (zr_54_4 hz) (zk_58 hz) (fun v => absurd v npos) (fun v => absurd v npos) (zr_54_6 hz) (zr_54_27 hz) (zk_70 hz) (fun _ => vx) (zk_59 hz) (fun _ => ?_) (fun _ => ?_)
            · rw [cx, e70, nI_pred, lN_i, nI_add]; exact vp_in_nI (by omega) (by decide)
            · rw [cx, e70, nI_pred, sm_neg, lN_i, nI_add, nI_clamp (by omega), e59 _ (by omega)]
              have hlt := fn_lf_lt (b := b) (s_S b (ps_wd s (x / 16)) (ps_ct s (x / 16)) (x % 16) - (k + 1)) (s_G b (ps_wd s (x / 16)) (ps_ct s (x / 16)) (x % 16) + (k + 1)) (fun j hj => (hf.2.2 _ (by omega)).1)
              have hpow : 256 ^ (s_S b (ps_wd s (x / 16)) (ps_ct s (x / 16)) (x % 16) - (k + 1)) ≤ 256 ^ 7 := Nat.pow_le_pow_right (by decide) (by omega)
              have e7 : (256 : Nat) ^ 7 = 2 ^ 56 := by decide
              rw [fn_step (by omega) (hf.2.2 _ (by omega)).1]
              have e : fn_lf b (s_G b (ps_wd s (x / 16)) (ps_ct s (x / 16)) (x % 16) + (k + 1)) (s_S b (ps_wd s (x / 16)) (ps_ct s (x / 16)) (x % 16) - (k + 1)) * 256 + b (s_G b (ps_wd s (x / 16)) (ps_ct s (x / 16)) (x % 16) + k) = fn_lf b (s_G b (ps_wd s (x / 16)) (ps_ct s (x / 16)) (x % 16) + k) (s_S b (ps_wd s (x / 16)) (ps_ct s (x / 16)) (x % 16) - k) := by
                rw [show s_S b (ps_wd s (x / 16)) (ps_ct s (x / 16)) (x % 16) - k = (s_S b (ps_wd s (x / 16)) (ps_ct s (x / 16)) (x % 16) - (k + 1)) + 1 by omega]
                show _ = b (s_G b (ps_wd s (x / 16)) (ps_ct s (x / 16)) (x % 16) + k) + 256 * fn_lf b (s_G b (ps_wd s (x / 16)) (ps_ct s (x / 16)) (x % 16) + k + 1) (s_S b (ps_wd s (x / 16)) (ps_ct s (x / 16)) (x % 16) - (k + 1))
                rw [show s_G b (ps_wd s (x / 16)) (ps_ct s (x / 16)) (x % 16) + (k + 1) = s_G b (ps_wd s (x / 16)) (ps_ct s (x / 16)) (x % 16) + k + 1 by omega]
                omega
              rw [e]
              exact ih2 _ _ (by omega)
        have := inner (s_S b (ps_wd s (x / 16)) (ps_ct s (x / 16)) (x % 16)) (some (.int 1)) none (Nat.le_refl _)
        rw [Nat.sub_self] at this
        exact this
  -- the counts
  have key : ∀ (m t : Nat) (w2 w3 w4 w5 : Option Value) (I1 : aj_I), m + t = ps_fd s → (∀ a, a ≠ 54 → a ≠ 55 → I1 a = I a) → (∀ j, j ≠ 0 → I1 54 j = I 54 j) → I1 54 0 = nI (ps_fd s) → (∀ u, u < t → I1 55 u = nI (s_n b (ps_ct s u))) → J 10 [some (.ref 54), some (.int (nI t)), w2, w3, w4, w5] [] Z I1 G (0, 0) := by
    intro m
    induction m with
    | zero =>
      intro t w2 w3 w4 w5 I1 ht hfr h54 h00 h55
      have hst : I1 54 15 ≤ nI t := by rw [h54 15 (by decide), h15]; exact nI_le (by omega) (by omega)
      refine b_66_10 hJ (zk_54 hz) (fun _ => ?_) (zr_54_1 hz) (zr_54_24 hz) (zk_67 hz) (fun z => absurd hst z) (zk_55 hz) (fun z => absurd hst z) (fun z => absurd hst z)
      exact samp I1 hfr h54 h00 (fun u hu => h55 u (by omega)) 48 0 _ _ _ _ I1 G rfl (fun _ _ _ => rfl) (fun _ _ => rfl) (fun t j _ _ h => absurd h (Nat.not_lt_zero _))
    | succ m ih =>
      intro t w2 w3 w4 w5 I1 ht hfr h54 h00 h55
      have nst : ¬ I1 54 15 ≤ nI t := by rw [h54 15 (by decide), h15]; exact nI_ge (by omega) (by omega)
      have vt : vp_in (nI t) 3 := vp_in_nI (by omega) (by decide)
      refine b_66_10 hJ (zk_54 hz) (fun z => absurd z nst) (zr_54_1 hz) (zr_54_24 hz) (zk_67 hz) (fun _ => vt) (zk_55 hz) (fun _ => vt) (fun _ => ?_)
      rw [nI_clamp (show t < 2 ^ 31 by omega), nI_1, hfr 67 (by decide) (by decide), (hall t (by omega)).2.2.1]
      refine ih (t + 1) _ _ _ _ _ (by omega) (fun a a1 a2 => by rw [aj_u2_ne a2]; exact hfr a a1 a2) (fun j hj => by rw [aj_u2_ne (by decide)]; exact h54 j hj) (by rw [aj_u2_ne (by decide)]; exact h00) (fun u hu => ?_)
      by_cases q : u = t
      · rw [q, aj_u2_at]
      · rw [aj_u2_n2 q]; exact h55 u (by omega)
  exact key (ps_fd s) 0 _ _ _ _ _ (Nat.add_zero _) (fun a a1 _ => aj_u2_ne a1) (fun j hj => aj_u2_n2 hj) aj_u2_at (fun u hu => absurd hu (Nat.not_lt_zero _))
end MI
