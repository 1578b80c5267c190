/-! read: the class's Reader, the tables -/
theorem fd_tk {Z : aj_Z} {I : aj_I} {s : r_ps} {len : Nat} (hC : fdC Z I s) (hB : r_B len 0 s) {t : Nat} (ht : t < ps_fd s) : tkC I (25 + 9 * t) (ps_wd s t) (ps_bx s t) (ps_ct s t) (ps_st s t) len := by
  intro k hk
  have hf := (hB.2.2.2.2.2.1 (by decide) t ht).2 k hk
  cases e : ps_tb s t k with
  | none => exact absurd e hf
  | some x =>
    have h1 := ((hC.2.2.2.2.2.2.2.2 t ht).2 k hk).2 x e
    have h2 := (hB.2.2.2.1 t ht).2 k hk x e
    unfold ps_bx ps_ct ps_st
    rw [e]
    exact ⟨h1, h2.2.2⟩
theorem r_f45_4 {b : Nat → Nat} {s : r_ps} {t k m : Nat} (h : ¬ r_len b k (ps_wd s t) (ps_ct s t k) (ps_st s t k)) : r_f45 b s t k (m + 1) = some (4, nI (ps_bx s t k)) := by
  rw [r_f45, if_neg h]
theorem r_f45_5 {b : Nat → Nat} {s : r_ps} {t k m : Nat} (h : r_len b k (ps_wd s t) (ps_ct s t k) (ps_st s t k)) (h2 : ¬ r_num b k (ps_wd s t) (ps_ct s t k)) : r_f45 b s t k (m + 1) = some (5, nI (ps_bx s t k)) := by
  rw [r_f45, if_pos h, if_neg h2]
theorem r_f45_on {b : Nat → Nat} {s : r_ps} {t k m : Nat} (h : r_len b k (ps_wd s t) (ps_ct s t k) (ps_st s t k)) (h2 : r_num b k (ps_wd s t) (ps_ct s t k)) : r_f45 b s t k (m + 1) = r_f45 b s t (k + 1) m := by
  rw [r_f45, if_pos h, if_pos h2]
theorem r_f45s_s {b : Nat → Nat} {s : r_ps} {t m : Nat} {x : Int32 × Int32} (h : r_f45 b s t 0 4 = some x) : r_f45s b s t (m + 1) = some x := by
  simp only [r_f45s, h]
theorem r_f45s_n {b : Nat → Nat} {s : r_ps} {t m : Nat} (h : r_f45 b s t 0 4 = none) : r_f45s b s t (m + 1) = r_f45s b s (t + 1) m := by
  simp only [r_f45s, h]
theorem r_f6_s {b : Nat → Nat} {s : r_ps} {t m : Nat} (h : ¬ s_agr b (ps_wd s t) (ps_ct s t)) : r_f6 b s t (m + 1) = some (6, oN (ps_sb s t)) := by
  rw [r_f6, if_neg h]
theorem r_f6_n {b : Nat → Nat} {s : r_ps} {t m : Nat} (h : s_agr b (ps_wd s t) (ps_ct s t)) : r_f6 b s t (m + 1) = r_f6 b s (t + 1) m := by
  rw [r_f6, if_pos h]
theorem r_f7_s {b : Nat → Nat} {s : r_ps} {t m : Nat} (h : ¬ s_in b (ps_wd s t) (ps_ct s t) (ps_m s).2.2.1 (ps_m s).2.2.2) : r_f7 b s t (m + 1) = some (7, nI (ps_bx s t 3)) := by
  rw [r_f7, if_neg h]
theorem r_f7_n {b : Nat → Nat} {s : r_ps} {t m : Nat} (h : s_in b (ps_wd s t) (ps_ct s t) (ps_m s).2.2.1 (ps_m s).2.2.2) : r_f7 b s t (m + 1) = r_f7 b s (t + 1) m := by
  rw [r_f7, if_pos h]
def s_oks (b : Nat → Nat) (s : r_ps) (t : Nat) : Prop := s_ok b (ps_wd s t) (ps_ct s t) (ps_st s t)
def s_agrs (b : Nat → Nat) (s : r_ps) (t : Nat) : Prop := s_agr b (ps_wd s t) (ps_ct s t)
section RW
variable {Z : aj_Z} {I : aj_I} {G : aj_G} {Q : aj_Q} {len : Nat} {b : Nat → Nat} {s : r_ps} {d mc ms : Nat}
theorem T_tablesAreRight (hz : zAll Z) (hf : fC I 17 18 len b) (hB : r_B len 0 s) (hC : fdC Z I s)
    (h0 : ∀ k p : Int32, r_f45s b s 0 (ps_fd s) = some (k, p) → Q (some (.int 0)) Z (aj_u2 (aj_u2 I 20 0 k) 20 1 p) G)
    (h1 : r_f45s b s 0 (ps_fd s) = none → (∀ t, t < ps_fd s → s_oks b s t) → Q (some (.int 1)) Z I G) : aj_T (d + 5) mc ms 105 [.ref 19] Z I G Q := by
  have hfd := hB.1
  have d6 := hC.2.2.2.2.2.1
  have nar0 : narrow .boolean (.int 0) = .int 0 := rfl
  refine t_105 fun J hJ => b_105_0 hJ ?_
  have key : ∀ (m t : Nat) (w2 w3 w4 : Option Value), m + t = ps_fd s → r_f45s b s 0 (ps_fd s) = r_f45s b s t m → (∀ u, u < t → s_oks b s u) → J 2 [some (.ref 19), some (.int (nI t)), w2, w3, w4] [] Z I G (0, 0) := by
    intro m
    induction m with
    | zero =>
      intro t w2 w3 w4 ht he hall
      refine b_105_2 hJ (zk_19 hz) (zr_19_2 hz) (zk_21 hz) (fun _ => h1 he (fun u hu => hall u (by omega))) (fun z => ?_)
      rw [d6] at z
      exact absurd (nI_le (by omega) (by omega)) z
    | succ m ih =>
      intro t w2 w3 w4 ht he hall
      have hTB := zTB_t hz (show t < 3 by omega)
      have tk := fd_tk hC hB (show t < ps_fd s by omega)
      refine b_105_2 hJ (zk_19 hz) (zr_19_2 hz) (zk_21 hz) (fun z => ?_) (fun _ => ?_)
      · rw [d6] at z
        exact absurd z (nI_ge (by omega) (by omega))
      have inner : ∀ (m' k : Nat) (w3 w4 : Option Value), m' + k = 4 → r_f45 b s t 0 4 = r_f45 b s t k m' → (∀ j, j < k → r_len b j (ps_wd s t) (ps_ct s t j) (ps_st s t j) ∧ r_num b j (ps_wd s t) (ps_ct s t j)) → J 15 [some (.ref 19), some (.int (nI t)), some (.int (nI k)), w3, w4] [] Z I G (0, 0) := by
        intro m'
        induction m' with
        | zero =>
          intro k w3 w4 hk he2 hall2
          have hst : (4 : Int32) ≤ nI k := nI_le (a := 4) (by omega) (by omega)
          refine b_105_15 (q4 := 25 + 9 * t + 5 + 0) hJ (fun _ => ?_) (zk_19 hz) (zr_19_2 hz) (zk_21 hz) (zr_21_2 hz) (zk_22 hz) (fun z => absurd hst z) (fun z => absurd hst z) hTB.1 hTB.2.1 hTB.2.2.2.2.2.1 (fun z => absurd hst z) (fun z => absurd hst z) (hTB.2.2.2.2.2.2.2.2.2 0 (by decide)).2.1 (fun z => absurd hst z)
          rw [nI_1]
          refine ih (t + 1) _ _ _ (by omega) (by rw [he]; exact r_f45s_n he2) (fun u hu => ?_)
          by_cases q : u = t
          · rw [q]; exact fun j hj => hall2 j (by omega)
          · exact hall u (by omega)
        | succ m' ih2 =>
          intro k w3 w4 hk he2 hall2
          have g := hTB.2.2.2.2.2.2.2.2.2 k (by omega)
          have tkk := tk k (by omega)
          refine b_105_15 hJ (fun z => absurd z (nI_ge (b := 4) (by omega) (by decide))) (zk_19 hz) (zr_19_2 hz) (zk_21 hz) (zr_21_2 hz) (zk_22 hz) (fun _ => vp_in_nI (by omega) (by decide)) (fun _ => by rw [nI_clamp (by omega)]; exact zrow_B hz (by omega)) hTB.1 hTB.2.1 hTB.2.2.2.2.2.1 (fun _ => vp_in_nI (by omega) (by decide)) (fun _ => by rw [nI_clamp (by omega)]; exact g.1) g.2.1 (fun _ => ?_)
          refine T_ownFault hz g.2 hf tkk.1 tkk.2 (fun a1 a2 => b_105_39 hJ (fun _ => ?_) (zk_19 hz) (zr_19_1 hz) g.2.1 (zk_20 hz) (fun z => absurd rfl z)) (fun a1 => b_105_39 hJ (fun z => absurd z (by decide)) (zk_19 hz) (zr_19_1 hz) g.2.1 (zk_20 hz) (fun _ => T_tell hz (b_105_59 hJ nar0 ?_))) (fun a1 a2 => b_105_39 hJ (fun z => absurd z (by decide)) (zk_19 hz) (zr_19_1 hz) g.2.1 (zk_20 hz) (fun _ => T_tell hz (b_105_59 hJ nar0 ?_)))
          · rw [nI_1]
            refine ih2 (k + 1) _ _ (by omega) (by rw [he2]; exact r_f45_on a1 a2) (fun j hj => ?_)
            by_cases q : j = k
            · rw [q]; exact ⟨a1, a2⟩
            · exact hall2 j (by omega)
          · rw [tkk.1.1]
            exact h0 4 _ (by rw [he]; exact r_f45s_s (by rw [he2]; exact r_f45_4 a1))
          · rw [tkk.1.1]
            exact h0 5 _ (by rw [he]; exact r_f45s_s (by rw [he2]; exact r_f45_5 a1 a2))
      exact inner 4 0 _ _ rfl rfl (fun j hj => absurd hj (Nat.not_lt_zero _))
  exact key (ps_fd s) 0 _ _ _ (Nat.add_zero _) rfl (fun u hu => absurd hu (Nat.not_lt_zero _))
theorem T_tablesAgreeR (hz : zAll Z) (hf : fC I 17 18 len b) (hB : r_B len 0 s) (hC : fdC Z I s) (hok : ∀ t, t < ps_fd s → s_oks b s t)
    (h0 : ∀ k p : Int32, r_f6 b s 0 (ps_fd s) = some (k, p) → Q (some (.int 0)) Z (aj_u2 (aj_u2 I 20 0 k) 20 1 p) G)
    (h1 : r_f6 b s 0 (ps_fd s) = none → (∀ t, t < ps_fd s → s_agrs b s t) → Q (some (.int 1)) Z I G) : aj_T (d + 6) mc ms 106 [.ref 19] Z I G Q := by
  have hfd := hB.1
  have d6 := hC.2.2.2.2.2.1
  have nar0 : narrow .boolean (.int 0) = .int 0 := rfl
  refine t_106 fun J hJ => b_106_0 hJ ?_
  have key : ∀ (m t : Nat) (w2 : Option Value), m + t = ps_fd s → r_f6 b s 0 (ps_fd s) = r_f6 b s t m → (∀ u, u < t → s_agrs b s u) → J 2 [some (.ref 19), some (.int (nI t)), w2] [] Z I G (0, 0) := by
    intro m
    induction m with
    | zero =>
      intro t w2 ht he hall
      have hst : I 21 10 ≤ nI t := by rw [d6]; exact nI_le (by omega) (by omega)
      exact b_106_2 (q2 := 25) hJ (zk_19 hz) (zr_19_2 hz) (zk_21 hz) (fun _ => h1 he (fun u hu => hall u (by omega))) (zr_21_2 hz) (zk_22 hz) (fun z => absurd hst z) (fun z => absurd hst z) (zk_25 hz) (fun z => absurd hst z)
    | succ m ih =>
      intro t w2 ht he hall
      have hTB := zTB_t hz (show t < 3 by omega)
      have tk := fd_tk hC hB (show t < ps_fd s by omega)
      refine b_106_2 hJ (zk_19 hz) (zr_19_2 hz) (zk_21 hz) (fun z => ?_) (zr_21_2 hz) (zk_22 hz) (fun _ => vp_in_nI (by omega) (by decide)) (fun _ => by rw [nI_clamp (by omega)]; exact zrow_B hz (by omega)) hTB.1 (fun _ => ?_)
      · rw [d6] at z
        exact absurd z (nI_ge (by omega) (by omega))
      · refine T_tablesAgreeTB hz hTB hf tk (hok t (by omega)) (fun a => b_106_27 hJ (fun _ => ?_) (zk_19 hz) (zr_19_1 hz) hTB.1 (zk_20 hz) (fun z => absurd z (by decide))) (fun a => b_106_27 hJ (fun z => absurd rfl z) (zk_19 hz) (zr_19_1 hz) hTB.1 (zk_20 hz) (fun _ => T_tell hz (b_106_43 hJ nar0 ?_)))
        · rw [nI_1]
          refine ih (t + 1) _ (by omega) (by rw [he]; exact r_f6_n a) (fun u hu => ?_)
          by_cases q : u = t
          · rw [q]; exact a
          · exact hall u (by omega)
        · rw [(hC.2.2.2.2.2.2.2.2 t (by omega)).1]
          exact h0 6 _ (by rw [he]; exact r_f6_s a)
  exact key (ps_fd s) 0 _ (Nat.add_zero _) rfl (fun u hu => absurd hu (Nat.not_lt_zero _))
/-- the samples of track t, written out -/
def uC (I : aj_I) (G : aj_G) (b : Nat → Nat) (s : r_ps) (t : Nat) : Prop := I (25 + 9 * t) 4 = nI (s_n b (ps_ct s t)) ∧ ∀ j, j < s_n b (ps_ct s t) → I (25 + 9 * t + 2) j = nI (s_D b (ps_wd s t) (ps_ct s t) j) ∧ I (25 + 9 * t + 3) j = nI (s_S b (ps_wd s t) (ps_ct s t) j) ∧ G (25 + 9 * t + 4) j = lN (s_G b (ps_wd s t) (ps_ct s t) j)
def s_ins (b : Nat → Nat) (s : r_ps) (t : Nat) : Prop := s_in b (ps_wd s t) (ps_ct s t) (ps_m s).2.2.1 (ps_m s).2.2.2
theorem T_samplesAreInside (hz : zAll Z) (hf : fC I 17 18 len b) (hB : r_B len 0 s) (hm : (ps_m s).2.1 = true) (hC : fdC Z I s) (hok : ∀ t, t < ps_fd s → s_oks b s t) (hag : ∀ t, t < ps_fd s → s_agrs b s t)
    (h0 : ∀ (k p : Int32) (I' : aj_I) (G' : aj_G), r_f7 b s 0 (ps_fd s) = some (k, p) → (∀ a, a < 25 ∨ 52 ≤ a → I' a = I a ∧ G' a = G a) → Q (some (.int 0)) Z (aj_u2 (aj_u2 I' 20 0 k) 20 1 p) G')
    (h1 : ∀ (I' : aj_I) (G' : aj_G), r_f7 b s 0 (ps_fd s) = none → (∀ a, a < 25 ∨ 52 ≤ a → I' a = I a ∧ G' a = G a) → (∀ t, t < ps_fd s → uC I' G' b s t ∧ s_ins b s t) → Q (some (.int 1)) Z I' G') : aj_T (d + 6) mc ms 107 [.ref 19] Z I G Q := by
  have hfd := hB.1
  have hlen := hf.2.1
  have d6 := hC.2.2.2.2.2.1
  have d5 := hC.2.2.2.2.1 hm
  have hmb := hB.2.2.1 hm
  have nar0 : narrow .boolean (.int 0) = .int 0 := rfl
  refine t_107 fun J hJ => b_107_0 hJ ?_
  have key : ∀ (m t : Nat) (w2 : Option Value) (I1 : aj_I) (G1 : aj_G), m + t = ps_fd s → r_f7 b s 0 (ps_fd s) = r_f7 b s t m → (∀ a, a < 25 ∨ 52 ≤ a → I1 a = I a ∧ G1 a = G a) → (∀ u k, u < 3 → k < 4 → I1 (25 + 9 * u + 5 + k) = I (25 + 9 * u + 5 + k)) → (∀ u, u < t → uC I1 G1 b s u ∧ s_ins b s u) → J 2 [some (.ref 19), some (.int (nI t)), w2] [] Z I1 G1 (0, 0) := by
    intro m
    induction m with
    | zero =>
      intro t w2 I1 G1 ht he hfr htb hall
      have hst : I1 21 10 ≤ nI t := by rw [(hfr 21 (by omega)).1, d6]; exact nI_le (by omega) (by omega)
      exact b_107_2 (q2 := 25) hJ (zk_19 hz) (zr_19_2 hz) (zk_21 hz) (fun _ => h1 I1 G1 he hfr (fun u hu => hall u (by omega))) (zr_21_2 hz) (zk_22 hz) (fun z => absurd hst z) (fun z => absurd hst z) (zk_25 hz) (fun z => absurd hst z)
    | succ m ih =>
      intro t w2 I1 G1 ht he hfr htb hall
      have hTB := zTB_t hz (show t < 3 by omega)
      have tk : tkC I1 (25 + 9 * t) (ps_wd s t) (ps_bx s t) (ps_ct s t) (ps_st s t) len := (fd_tk hC hB (show t < ps_fd s by omega)).same (fun k hk => htb t k (by omega) hk)
      have hf1 : fC I1 17 18 len b := hf.same (hfr 17 (by omega)).1 (hfr 18 (by omega)).1
      have hot := hok t (by omega)
      have hat := hag t (by omega)
      refine b_107_2 hJ (zk_19 hz) (zr_19_2 hz) (zk_21 hz) (fun z => ?_) (zr_21_2 hz) (zk_22 hz) (fun _ => vp_in_nI (by omega) (by decide)) (fun _ => by rw [nI_clamp (by omega)]; exact zrow_B hz (by omega)) hTB.1 (fun _ => ?_)
      · rw [(hfr 21 (by omega)).1, d6] at z
        exact absurd z (nI_ge (by omega) (by omega))
      · refine T_unfold hz hTB (by omega) hf1 tk hot hat (fun I2 G2 hfr2 _ hn4 hg2 hv => b_107_27 hJ (zk_19 hz) (zr_19_2 hz) (zk_21 hz) hTB.1 ?_)
        have hfr3 : ∀ a, a < 25 ∨ 52 ≤ a → I2 a = I a ∧ G2 a = G a := fun a ha => ⟨by rw [hfr2 a (by omega) (by omega) (by omega)]; exact (hfr a ha).1, by rw [hg2 a (by omega)]; exact (hfr a ha).2⟩
        have htb3 : ∀ u k, u < 3 → k < 4 → I2 (25 + 9 * u + 5 + k) = I (25 + 9 * u + 5 + k) := fun u k hu hk => by rw [hfr2 _ (by omega) (by omega) (by omega)]; exact htb u k hu hk
        have hu3 : ∀ u, u < t → uC I2 G2 b s u ∧ s_ins b s u := by
          intro u hu
          refine ⟨?_, (hall u hu).2⟩
          have := (hall u hu).1
          unfold uC at this ⊢
          rw [hfr2 (25 + 9 * u) (by omega) (by omega) (by omega), hfr2 (25 + 9 * u + 2) (by omega) (by omega) (by omega), hfr2 (25 + 9 * u + 3) (by omega) (by omega) (by omega), hg2 (25 + 9 * u + 4) (by omega)]
          exact this
        rw [(hfr3 21 (by omega)).1, d5.1, d5.2]
        refine T_samplesLieIn hTB (by omega) (by omega) hat.2.1 hat.2.2.2.2.1 (fun i hi => s_G_lt hot hat hi) hn4 (fun j hj => (hv j hj).2) (fun a => b_107_45 hJ (fun _ => ?_) (zk_19 hz) (zr_19_1 hz) hTB.1 hTB.2.1 hTB.2.2.2.2.2.1 (fun z => absurd z (by decide)) (fun z => absurd z (by decide)) (hTB.2.2.2.2.2.2.2.2.2 3 (by decide)).2.1 (zk_20 hz) (fun z => absurd z (by decide))) (fun a => b_107_45 hJ (fun z => absurd rfl z) (zk_19 hz) (zr_19_1 hz) hTB.1 hTB.2.1 hTB.2.2.2.2.2.1 (fun _ => vp_in_nI (n := 3) (by decide) (by decide)) (fun _ => (hTB.2.2.2.2.2.2.2.2.2 3 (by decide)).1) (hTB.2.2.2.2.2.2.2.2.2 3 (by decide)).2.1 (zk_20 hz) (fun _ => T_tell hz (b_107_66 hJ nar0 ?_)))
        · rw [nI_1]
          refine ih (t + 1) _ I2 G2 (by omega) (by rw [he]; exact r_f7_n a) hfr3 htb3 (fun u hu => ?_)
          by_cases q : u = t
          · rw [q]; exact ⟨⟨hn4, hv⟩, a⟩
          · exact hu3 u (by omega)
        · rw [htb3 t 3 (by omega) (by omega), (fd_tk hC hB (show t < ps_fd s by omega) 3 (by decide)).1.1]
          exact h0 7 _ I2 G2 (by rw [he]; exact r_f7_s a) hfr3
  exact key (ps_fd s) 0 _ I G (Nat.add_zero _) rfl (fun _ _ => ⟨rfl, rfl⟩) (fun _ _ _ _ => rfl) (fun u hu => absurd hu (Nat.not_lt_zero _))
end RW
