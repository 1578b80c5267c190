/-! read: the class takes a box, begins, finds all -/
theorem r_step_no {b : Nat → Nat} {s : r_ps} (hp : ps_p s < ps_en s (ps_lv s)) (hh : r_head b (ps_p s) (ps_en s (ps_lv s) - ps_p s) = none) : r_step b s = .inl (1, nI (ps_p s)) := by
  unfold r_step
  rw [if_pos hp]
  simp only [hh]
theorem r_step_many {b : Nat → Nat} {s : r_ps} {hd sz : Nat} (hp : ps_p s < ps_en s (ps_lv s)) (hh : r_head b (ps_p s) (ps_en s (ps_lv s) - ps_p s) = some (hd, sz)) (hn : r_note s (nI (fn_nb b (ps_p s + 4) 4)) (ps_p s + hd) (ps_p s + sz) = none) : r_step b s = .inl (2, nI (ps_p s)) := by
  unfold r_step
  rw [if_pos hp]
  simp only [hh, hn]
theorem r_step_on {b : Nat → Nat} {s s' : r_ps} {hd sz : Nat} (hp : ps_p s < ps_en s (ps_lv s)) (hh : r_head b (ps_p s) (ps_en s (ps_lv s) - ps_p s) = some (hd, sz)) (hn : r_note s (nI (fn_nb b (ps_p s + 4) 4)) (ps_p s + hd) (ps_p s + sz) = some s') : r_step b s = .inr (some (r_go s' (nI (fn_nb b (ps_p s + 4) 4)) (ps_p s + hd) (ps_p s + sz))) := by
  unfold r_step
  rw [if_pos hp]
  simp only [hh, hn]
theorem r_step_bad {b : Nat → Nat} {s : r_ps} (hp : ¬ ps_p s < ps_en s (ps_lv s)) (hw : ¬ r_whole s) : r_step b s = .inl (3, nI (ps_hm s (ps_lv s))) := by
  unfold r_step
  rw [if_neg hp, if_neg hw]
theorem r_step_end {b : Nat → Nat} {s : r_ps} (hp : ¬ ps_p s < ps_en s (ps_lv s)) (hw : r_whole s) (h0 : ps_lv s = 0) : r_step b s = .inr none := by
  unfold r_step
  rw [if_neg hp, if_pos hw, if_pos h0]
theorem r_step_up {b : Nat → Nat} {s : r_ps} (hp : ¬ ps_p s < ps_en s (ps_lv s)) (hw : r_whole s) (h0 : ps_lv s ≠ 0) : r_step b s = .inr (some (ps_lv s - 1, s.2)) := by
  unfold r_step
  rw [if_neg hp, if_pos hw, if_neg h0]
theorem r_run_l {b : Nat → Nat} {m : Nat} {s : r_ps} {x : Int32 × Int32} (h : r_step b s = .inl x) : r_run b (m + 1) s = .inl x := by
  simp only [r_run, h]
theorem r_run_n {b : Nat → Nat} {m : Nat} {s : r_ps} (h : r_step b s = .inr none) : r_run b (m + 1) s = .inr s := by
  simp only [r_run, h]
theorem r_run_s {b : Nat → Nat} {m : Nat} {s s' : r_ps} (h : r_step b s = .inr (some s')) : r_run b (m + 1) s = r_run b m s' := by
  simp only [r_run, h]
theorem r_B_go {len ct e : Nat} {s s' : r_ps} {ty : Int32} (e1 : ps_lv s' = ps_lv s) (h : r_B len (if ps_lv s < 3 ∧ ty = aj_gv (ps_lv s) then ps_lv s + 1 else ps_lv s) s') : r_B len (ps_lv (r_go s' ty ct e)) (r_go s' ty ct e) := by
  unfold r_go
  rw [e1]
  by_cases q : ps_lv s < 3 ∧ ty = aj_gv (ps_lv s)
  · rw [if_pos q] at h ⊢
    exact h
  · rw [if_neg q] at h ⊢
    exact h
theorem fdC.slots {Z : aj_Z} {I I' : aj_I} {s : r_ps} (h : fdC Z I s) (hfd : ps_fd s ≤ 3) (h21 : ∀ j, j ≤ 12 → I' 21 j = I 21 j) (hfr : ∀ a, 22 ≤ a → a < 52 → I' a = I a) : fdC Z I' s := by
  obtain ⟨d1, d2, d3, d4, d5, d6, d7, d8, d9⟩ := h
  refine ⟨by rw [h21 5 (by decide)]; exact d1, by rw [hfr 23 (by decide) (by decide), hfr 24 (by decide) (by decide)]; exact d2, by rw [h21 6 (by decide)]; exact d3, by rw [h21 7 (by decide)]; exact d4, by rw [h21 8 (by decide), h21 9 (by decide)]; exact d5, by rw [h21 10 (by decide)]; exact d6, by rw [h21 12 (by decide)]; exact d7, d8, fun t ht => ?_⟩
  have h := d9 t ht
  refine ⟨by rw [hfr _ (by omega) (by omega)]; exact h.1, fun k hk => ?_⟩
  have hI : I' (25 + 9 * t + 5 + k) = I (25 + 9 * t + 5 + k) := hfr _ (by omega) (by omega)
  refine ⟨by rw [hI]; exact (h.2 k hk).1, fun x hx => ?_⟩
  have := (h.2 k hk).2 x hx
  unfold tbC at this ⊢
  rw [hI]; exact this
section RV
variable {Z : aj_Z} {I : aj_I} {G : aj_G} {Q : aj_Q} {len : Nat} {b : Nat → Nat} {s : r_ps} {d mc ms : Nat}
theorem T_takeBox (hz : zAll Z) (zc : zCur Z) (hf : fC I 17 18 len b) (hA : r_A len s) (hB : r_B len (ps_lv s) s) (hC : fdC Z I s) (hp : ps_p s < ps_en s (ps_lv s))
    (h0 : ∀ (k : Int32) (I' : aj_I), r_step b s = .inl (k, nI (ps_p s)) → (∀ a, a ≤ 19 ∨ 52 ≤ a → I' a = I a) → I' 20 0 = k → I' 20 1 = nI (ps_p s) → Q (some (.int 0)) Z I' G)
    (h1 : ∀ (hd sz : Nat) (s' : r_ps) (Z' : aj_Z) (I' : aj_I), r_head b (ps_p s) (ps_en s (ps_lv s) - ps_p s) = some (hd, sz) → r_note s (nI (fn_nb b (ps_p s + 4) 4)) (ps_p s + hd) (ps_p s + sz) = some s' → zAll Z' → zCur Z' → (∀ a, a ≤ 20 ∨ 52 ≤ a → I' a = I a) → I' 21 13 = nI (fn_nb b (ps_p s + 4) 4) → I' 21 14 = nI (ps_p s + hd) → I' 21 15 = nI (ps_p s + sz) → fdC Z' I' s' → Q (some (.int 1)) Z' I' G) : aj_T (d + 5) mc ms 94 [.ref 21] Z I G Q := by
  have hlv := hA.1
  have hlen := hf.2.1
  have hen := r_A_en hA (ps_lv s) (Nat.le_refl _)
  have d1 := hC.1
  have d2 := (hC.2.1 (ps_lv s) (Nat.le_refl _)).2
  have d7 := hC.2.2.2.2.2.2.1
  have nar0 : narrow .boolean (.int 0) = .int 0 := rfl
  refine t_94 fun J hJ => b_94_0 hJ (zk_21 hz) (zr_21_4 hz) (zk_24 hz) (by rw [d1]; exact vp_in_nI (by omega) (by decide)) ?_
  rw [d1, nI_clamp (show ps_lv s < 2 ^ 31 by omega), d2, d7, pk_sub (by omega)]
  refine T_readHead hz hf d7 (by omega) (fun hh => ?_) (fun hd sz hh => ?_)
  · refine b_94_18 hJ (zk_21 hz) (fun z => absurd rfl z) (zr_21_1 hz) (zk_20 hz) (fun _ => T_tell hz (b_94_33 hJ nar0 (h0 1 _ (r_step_no hp hh) (fun a ha => ?_) ?_ ?_)))
    · rw [aj_u2_ne (by omega), aj_u2_ne (by omega)]
    · rw [aj_u2_n2 (by decide), aj_u2_at]
    · rw [aj_u2_at]; exact d7
  · have hhb := r_head_b hh
    have fr : ∀ a, a ≠ 21 → (aj_u2 (aj_u2 (aj_u2 I 21 13 (nI (fn_nb b (ps_p s + 4) 4))) 21 14 (nI (ps_p s + hd))) 21 15 (nI (ps_p s + sz))) a = I a := fun a ha => by rw [aj_u2_ne ha, aj_u2_ne ha, aj_u2_ne ha]
    have f21 : ∀ j, j ≤ 12 → (aj_u2 (aj_u2 (aj_u2 I 21 13 (nI (fn_nb b (ps_p s + 4) 4))) 21 14 (nI (ps_p s + hd))) 21 15 (nI (ps_p s + sz))) 21 j = I 21 j := fun j hj => by rw [aj_u2_n2 (by omega), aj_u2_n2 (by omega), aj_u2_n2 (by omega)]
    have e13 : (aj_u2 (aj_u2 (aj_u2 I 21 13 (nI (fn_nb b (ps_p s + 4) 4))) 21 14 (nI (ps_p s + hd))) 21 15 (nI (ps_p s + sz))) 21 13 = nI (fn_nb b (ps_p s + 4) 4) := by rw [aj_u2_n2 (by decide), aj_u2_n2 (by decide), aj_u2_at]
    have e14 : (aj_u2 (aj_u2 (aj_u2 I 21 13 (nI (fn_nb b (ps_p s + 4) 4))) 21 14 (nI (ps_p s + hd))) 21 15 (nI (ps_p s + sz))) 21 14 = nI (ps_p s + hd) := by rw [aj_u2_n2 (by decide), aj_u2_at]
    have e15 : (aj_u2 (aj_u2 (aj_u2 I 21 13 (nI (fn_nb b (ps_p s + 4) 4))) 21 14 (nI (ps_p s + hd))) 21 15 (nI (ps_p s + sz))) 21 15 = nI (ps_p s + sz) := aj_u2_at
    have hC1 := hC.slots hB.1 f21 (fun a h1 h2 => fr a (by omega))
    refine b_94_18 hJ (zk_21 hz) (fun _ => ?_) (zr_21_1 hz) (zk_20 hz) (fun z => absurd z (by decide))
    refine T_keepBox hz zc hlen hA hB hC1 e13 e14 e15 (by omega) (fun I' en hfr h12 => ?_) (fun s' Z' I' en hz' zc' hfr hsl hC' => ?_)
    · refine b_94_38 hJ (fun z => absurd rfl z) (zk_21 hz) (zr_21_1 hz) (zk_20 hz) (fun _ => T_tell hz (b_94_53 hJ (fun _ => h0 2 _ (r_step_many hp hh en) (fun a ha => ?_) ?_ ?_) (fun z => absurd rfl z)))
      · rw [aj_u2_ne (by omega), aj_u2_ne (by omega), hfr a (by omega), fr a (by omega)]
      · rw [aj_u2_n2 (by decide), aj_u2_at]
      · rw [aj_u2_at, h12, f21 12 (by decide)]; exact d7
    · exact b_94_38 hJ (fun _ => h1 hd sz s' Z' I' hh en hz' zc' (fun a ha => by rw [hfr a ha, fr a (by omega)]) (by rw [hsl 13 (by decide)]; exact e13) (by rw [hsl 14 (by decide)]; exact e14) (by rw [hsl 15 (by decide)]; exact e15) hC') (zk_21 hz') (zr_21_1 hz') (zk_20 hz') (fun z => absurd z (by decide))
theorem T_begin (hz : zAll Z) (hf : fC I 17 18 len b) (hQ : ∀ I' : aj_I, (∀ a, a ≠ 21 → a ≠ 23 → a ≠ 24 → I' a = I a) → fdC Z I' (r_s0 len) → Q none Z I' G) : aj_T (d + 2) mc ms 93 [.ref 21] Z I G Q := by
  have e0 : (0 : Int32).toNatClampNeg = 0 := rfl
  refine t_93 fun J hJ => b_93_0 hJ (zk_21 hz) (zr_21_3 hz) (zk_23 hz) (vp_in_nI (n := 0) (by decide) (by decide)) (zr_21_4 hz) (zr_21_0 hz) (zk_17 hz) ?_
  rw [e0]
  refine T_byteCount (zBR_f hz) (hf.same (by rw [aj_u2_ne (by decide), aj_u2_ne (by decide)]) (by rw [aj_u2_ne (by decide), aj_u2_ne (by decide)])) (b_93_24 hJ (zk_24 hz) (vp_in_nI (n := 0) (by decide) (by decide)) (zk_21 hz) ?_)
  rw [e0]
  refine hQ _ (fun a a1 a2 a3 => by rw [aj_u2_ne a1, aj_u2_ne a1, aj_u2_ne a1, aj_u2_ne a1, aj_u2_ne a3, aj_u2_ne a2, aj_u2_ne a1]) ⟨?_, fun i hi => ?_, ?_, ?_, fun h => absurd h (show ¬ (false = true) by decide), ?_, ?_, fun h => absurd h (show ¬ 1 ≤ 0 by decide), fun t ht => absurd ht (Nat.not_lt_zero _)⟩
  · show _ = nI 0
    rw [aj_u2_n2 (by decide), aj_u2_n2 (by decide), aj_u2_n2 (by decide), aj_u2_n2 (by decide), aj_u2_n1 (by decide), aj_u2_n1 (by decide), aj_u2_at]
    rfl
  · have hi : i ≤ 0 := hi
    have hi : i = 0 := by omega
    subst hi
    refine ⟨?_, ?_⟩
    · show _ = nI 0
      rw [aj_u2_n1 (by decide), aj_u2_n1 (by decide), aj_u2_n1 (by decide), aj_u2_n1 (by decide), aj_u2_n1 (by decide), aj_u2_at]
      rfl
    · show _ = nI len
      rw [aj_u2_n1 (by decide), aj_u2_n1 (by decide), aj_u2_n1 (by decide), aj_u2_n1 (by decide), aj_u2_at]
  · show _ = (0 : Int32)
    rw [aj_u2_n2 (by decide), aj_u2_n2 (by decide), aj_u2_n2 (by decide), aj_u2_at]
  · show _ = (0 : Int32)
    rw [aj_u2_n2 (by decide), aj_u2_n2 (by decide), aj_u2_at]
  · show _ = nI 0
    rw [aj_u2_n2 (by decide), aj_u2_at]
    rfl
  · show _ = nI 0
    rw [aj_u2_at]
    rfl
theorem T_findAll (hz : zAll Z) (zc : zCur Z) (hf : fC I 17 18 len b)
    (h0 : ∀ (Z' : aj_Z) (I' : aj_I) (k p : Int32), r_run b 1201 (r_s0 len) = .inl (k, p) → zAll Z' → zCur Z' → (∀ a, a ≤ 19 ∨ 52 ≤ a → I' a = I a) → I' 20 0 = k → I' 20 1 = p → Q (some (.int 0)) Z' I' G)
    (h1 : ∀ (Z' : aj_Z) (I' : aj_I) (s : r_ps), r_run b 1201 (r_s0 len) = .inr s → zAll Z' → zCur Z' → (∀ a, a ≤ 20 ∨ 52 ≤ a → I' a = I a) → r_B len 0 s → (ps_m s).2.1 = true → fdC Z' I' s → Q (some (.int 1)) Z' I' G) : aj_T (d + 6) mc ms 92 [.ref 21] Z I G Q := by
  have hlen := hf.2.1
  have nar0 : narrow .boolean (.int 0) = .int 0 := rfl
  refine t_92 fun J hJ => b_92_0 hJ (zk_21 hz) ?_
  have key : ∀ (m i : Nat) (s : r_ps) (Z1 : aj_Z) (I1 : aj_I), m + i = 1201 → r_ms len s < m → r_run b 1201 (r_s0 len) = r_run b m s → zAll Z1 → zCur Z1 → (∀ a, a ≤ 20 ∨ 52 ≤ a → I1 a = I a) → r_A len s → r_B len (ps_lv s) s → fdC Z1 I1 s → J 6 [some (.ref 21), some (.int (nI i))] [] Z1 I1 G (0, 0) := by
    intro m
    induction m with
    | zero => intro i s Z1 I1 hi hms; exact absurd hms (Nat.not_lt_zero _)
    | succ m ih =>
      intro i s Z1 I1 hi hms hrun hz1 zc1 hfr hA hB hC
      have hlv := hA.1
      have hen := r_A_en hA (ps_lv s) (Nat.le_refl _)
      have hpe := hA.2.1
      have hnlt : ¬ (1200 : Int32) < nI i := nI_nlt (a := 1200) (b := i) (by omega) (by decide)
      have d1 := hC.1
      have d2 := (hC.2.1 (ps_lv s) (Nat.le_refl _)).2
      have d2h := (hC.2.1 (ps_lv s) (Nat.le_refl _)).1
      have d7 := hC.2.2.2.2.2.2.1
      have eEn : I1 24 (I1 21 5).toNatClampNeg = nI (ps_en s (ps_lv s)) := by rw [d1, nI_clamp (by omega)]; exact d2
      have eHm : I1 23 (I1 21 5).toNatClampNeg = nI (ps_hm s (ps_lv s)) := by rw [d1, nI_clamp (by omega)]; exact d2h
      have hf1 : fC I1 17 18 len b := hf.same (hfr 17 (by omega)) (hfr 18 (by omega))
      have vin : vp_in (I1 21 5) 4 := by rw [d1]; exact vp_in_nI (by omega) (by decide)
      refine b_92_6 hJ (zk_21 hz1) (zr_21_1 hz1) (zk_20 hz1) (fun z => absurd z hnlt) (zr_21_4 hz1) (zk_24 hz1) (fun _ => vin) (fun _ z => ?_) (fun _ z => ?_)
      · rw [eEn, d7] at z
        have hp : ¬ ps_p s < ps_en s (ps_lv s) := by
          have := (nI_leI (by omega) (by omega)).mp z
          omega
        refine T_levelIsWhole hz1 zc1 hlen hA hB hC (fun hw => b_92_49 hJ (zk_21 hz1) (fun _ y => ?_) (fun _ y => ?_) (zr_21_1 hz1) (zr_21_3 hz1) (zk_23 hz1) (fun y => absurd y (by decide)) (zk_20 hz1) (fun y => absurd y (by decide))) (fun hw => b_92_49 hJ (zk_21 hz1) (fun y => absurd rfl y) (fun y => absurd rfl y) (zr_21_1 hz1) (zr_21_3 hz1) (zk_23 hz1) (fun _ => vin) (zk_20 hz1) (fun _ => T_tell hz1 (b_92_69 hJ nar0 (h0 Z1 _ 3 (nI (ps_hm s (ps_lv s))) (by rw [hrun, r_run_l (r_step_bad hp hw)]) hz1 zc1 (fun a ha => ?_) ?_ ?_))))
        · have hl0 : ps_lv s ≠ 0 := fun x => y (by rw [d1, x]; rfl)
          have hup := r_A_up hA hp hl0
          rw [nI_1]
          refine ih (i + 1) (ps_lv s - 1, s.2) Z1 _ (by omega) (by omega) (by rw [hrun, r_run_s (r_step_up hp hw hl0)]) hz1 zc1 (fun a ha => by rw [aj_u2_ne (by omega)]; exact hfr a ha) hup.1 (r_B_up hB hlv hl0 hw) ?_
          obtain ⟨c1, c2, c3, c4, c5, c6, c7, c8, c9⟩ := hC
          have u : ∀ j, j ≠ 5 → aj_u2 I1 21 5 (I1 21 5 - 1) 21 j = I1 21 j := fun j hj => aj_u2_n2 hj
          have uo : ∀ a, a ≠ 21 → aj_u2 I1 21 5 (I1 21 5 - 1) a = I1 a := fun a ha => aj_u2_ne ha
          refine ⟨?_, fun j hj => ?_, by rw [u 6 (by decide)]; exact c3, by rw [u 7 (by decide)]; exact c4, by rw [u 8 (by decide), u 9 (by decide)]; exact c5, by rw [u 10 (by decide)]; exact c6, by rw [u 12 (by decide)]; exact c7, c8, fun t ht => ?_⟩
          · show _ = nI (ps_lv s - 1)
            rw [aj_u2_at, d1, show (1 : Int32) = nI 1 from rfl, pk_sub (by omega)]
          · have hj : j ≤ ps_lv s - 1 := hj
            rw [uo 23 (by decide), uo 24 (by decide)]
            exact c2 j (by omega)
          · have ht : t < ps_fd s := ht
            have hfd := hB.1
            have h := c9 t ht
            refine ⟨by rw [uo _ (by omega)]; exact h.1, fun k hk => ?_⟩
            have hI : aj_u2 I1 21 5 (I1 21 5 - 1) (25 + 9 * t + 5 + k) = I1 (25 + 9 * t + 5 + k) := uo _ (by omega)
            refine ⟨by rw [hI]; exact (h.2 k hk).1, fun x hx => ?_⟩
            have := (h.2 k hk).2 x hx
            unfold tbC at this ⊢
            rw [hI]; exact this
        · have hl0 : ps_lv s = 0 := by
            rw [d1] at y
            exact (nI_eq (b := 0) (by omega) (by decide)).mp y
          rw [hl0] at hB
          exact h1 Z1 I1 s (by rw [hrun, r_run_n (r_step_end hp hw hl0)]) hz1 zc1 hfr hB (hw.1 hl0).2 hC
        · rw [aj_u2_ne (by omega), aj_u2_ne (by omega)]; exact hfr a (by omega)
        · rw [aj_u2_n2 (by decide), aj_u2_at]
        · rw [aj_u2_at]; exact eHm
      · rw [eEn, d7] at z
        have hp : ps_p s < ps_en s (ps_lv s) := Nat.not_le.mp (fun y => z (nI_le y (by omega)))
        refine T_takeBox hz1 zc1 hf1 hA hB hC hp (fun k I2 est hfr2 g0 g1 => b_92_33 hJ (zk_21 hz1) (fun y => absurd rfl y) (fun _ => h0 Z1 I2 k _ (by rw [hrun, r_run_l est]) hz1 zc1 (fun a ha => by rw [hfr2 a ha]; exact hfr a (by omega)) g0 g1)) (fun hd sz s' Z2 I2 hh hn hz2 zc2 hfr2 i13 i14 i15 hC2 => b_92_33 hJ (zk_21 hz2) (fun _ => ?_) (fun y => absurd y (by decide)))
        have hhb := r_head_b hh
        have hsm := r_note_same hn
        have hgo := r_A_go hA hp (by omega) (by omega) (by omega) hn
        have hBn := r_B_note hA hB (by omega) (by omega) hn
        refine T_stepOn hz2 hC2 (by rw [hsm.1]; exact hlv) i13 i14 i15 (fun I3 hfr3 hC3 => b_92_42 hJ ?_)
        rw [nI_1]
        exact ih (i + 1) _ Z2 I3 (by omega) (by omega) (by rw [hrun, r_run_s (r_step_on hp hh hn)]) hz2 zc2 (fun a ha => by rw [hfr3 a (by omega) (by omega) (by omega), hfr2 a ha]; exact hfr a ha) hgo.1 (r_B_go hsm.1 hBn) hC3
  refine T_begin hz hf (fun I' hfr hC => b_92_4 hJ (key 1201 0 (r_s0 len) Z I' rfl ?_ rfl hz zc (fun a ha => hfr a (by omega) (by omega) (by omega)) (r_A_0 len) (r_B_0 len) hC))
  show (len - 0) + 4 * 0 < 1201
  omega
end RV
