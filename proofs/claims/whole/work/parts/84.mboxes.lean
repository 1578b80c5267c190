/-! read: the reference finds all boxes -/
/-- what reading leaves alone -/
def mFr (I I' : aj_I) : Prop := (∀ a, a < 54 ∨ (55 ≤ a ∧ a ≤ 59) ∨ 67 ≤ a → I' a = I a) ∧ ∀ j, j ≤ 7 → I' 54 j = I 54 j
section ME
variable {Z : aj_Z} {I : aj_I} {G : aj_G} {Q : aj_Q} {len : Nat} {b : Nat → Nat} {s : r_ps} {d mc ms : Nat}
theorem M_readBoxes (hz : zAll Z) (hf : mF I len b)
    (h0 : ∀ (I' : aj_I) (k p : Int32), r_run b 1201 (r_s0 len) = .inl (k, p) → k ≠ 0 → (∀ a, a < 54 ∨ (55 ≤ a ∧ a ≤ 59) ∨ 67 ≤ a → I' a = I a) → (∀ j, j ≤ 6 → I' 54 j = I 54 j) → I' 54 7 = p → Q (some (.int k)) Z I' G)
    (h1 : ∀ (I' : aj_I) (s : r_ps), r_run b 1201 (r_s0 len) = .inr s → mFr I I' → r_B len 0 s → (ps_m s).2.1 = true → fmT I' s → Q (some (.int 0)) Z I' G) : aj_T (d + 3) mc ms 49 [.ref 54] Z I G Q := by
  have hlen := hf.2.1
  have e0 : (0 : Int32).toNatClampNeg = 0 := rfl
  refine t_49 fun J hJ => b_49_0 hJ (zk_54 hz) (zr_54_9 hz) (zk_60 hz) (vp_in_nI (n := 0) (by decide) (by decide)) (zr_54_10 hz) (zk_61 hz) (vp_in_nI (n := 0) (by decide) (by decide)) ?_
  rw [e0]
  -- a fault told
  have bad : ∀ (I1 : aj_I) (k p : Int32), r_run b 1201 (r_s0 len) = .inl (k, p) → k ≠ 0 → mFr I I1 → Q (some (.int k)) Z (aj_u2 I1 54 7 p) G := fun I1 k p he hk hm => h0 _ k p he hk (fun a ha => by rw [aj_u2_ne (by omega)]; exact hm.1 a ha) (fun j hj => by rw [aj_u2_n2 (by omega)]; exact hm.2 j (by omega)) aj_u2_at
  have key : ∀ (m : Nat) (s : r_ps) (w2 : Option Value) (I1 : aj_I), r_ms len s < m → r_run b 1201 (r_s0 len) = r_run b m s → mFr I I1 → r_A len s → r_B len (ps_lv s) s → fdM I1 s → J 39 [some (.ref 54), some (.int (nI (ps_p s))), w2] [] Z I1 G (0, 0) := by
    intro m
    induction m with
    | zero => intro s w2 I1 hms; exact absurd hms (Nat.not_lt_zero _)
    | succ m ih =>
      intro s w2 I1 hms hrun hfr hA hB hM
      have hlv := hA.1
      have hen := r_A_en hA (ps_lv s) (Nat.le_refl _)
      have hpe := hA.2.1
      have d1 := hM.1
      have d2 := (hM.2.1 (ps_lv s) (Nat.le_refl _)).2
      have d2h := (hM.2.1 (ps_lv s) (Nat.le_refl _)).1
      have eEn : I1 61 (I1 54 8).toNatClampNeg = nI (ps_en s (ps_lv s)) := by rw [d1, nI_clamp (by omega)]; exact d2
      have eHm : I1 60 (I1 54 8).toNatClampNeg = nI (ps_hm s (ps_lv s)) := by rw [d1, nI_clamp (by omega)]; exact d2h
      have hf1 : mF I1 len b := hf.same (hfr.2 5 (by decide)) (hfr.1 59 (by omega))
      have vin : vp_in (I1 54 8) 4 := by rw [d1]; exact vp_in_nI (by omega) (by decide)
      have nneg : ¬ I1 54 8 < 0 := by rw [d1]; exact nI_pos (by omega)
      refine b_49_39 hJ (zk_54 hz) (fun z => absurd z nneg) (zr_54_10 hz) (zk_61 hz) (fun _ => vin) (fun _ _ => vin) (fun _ z => ?_) (fun _ z => ?_)
      · rw [eEn] at z ⊢
        have hp : ps_p s < ps_en s (ps_lv s) := by
          have : ps_p s ≠ ps_en s (ps_lv s) := fun y => z (by rw [y])
          omega
        refine M_readHead hz hf1 (by omega) hen (fun I2 hh hm => b_49_108 hJ (zk_54 hz) (fun y => absurd rfl y) (fun _ => M_tell hz (b_49_117 hJ (bad I2 1 _ (by rw [hrun, r_run_l (r_step_no hp hh)]) (by decide) ⟨fun a ha => by rw [hm.1 a (by omega)]; exact hfr.1 a ha, fun j hj => by rw [hm.2 j (by omega) (by omega) (by omega)]; exact hfr.2 j hj⟩)))) (fun hd sz I2 hh hm h21 h22 h23 => ?_)
        have hM2 : fdM I2 s := hM.same (fun j j1 j2 => hm.2 j (by omega) (by omega) (by omega)) (fun a a1 a2 => hm.1 a (by omega))
        have hfr2 : mFr I I2 := ⟨fun a ha => by rw [hm.1 a (by omega)]; exact hfr.1 a ha, fun j hj => by rw [hm.2 j (by omega) (by omega) (by omega)]; exact hfr.2 j hj⟩
        have hhb := r_head_b hh
        refine b_49_108 hJ (zk_54 hz) (fun _ => ?_) (fun y => absurd y (by decide))
        refine M_isTooMany (ct := ps_p s + hd) (e := ps_p s + sz) hz hlen hlv hB hM2 h21 (fun hno => b_49_122 hJ (zk_54 hz) (fun _ => ?_) (fun y => absurd rfl y)) (fun hno => b_49_122 hJ (zk_54 hz) (fun y => absurd y (by decide)) (fun _ => M_tell hz (b_49_131 hJ (bad I2 2 _ (by rw [hrun, r_run_l (r_step_many hp hh hno)]) (by decide) hfr2))))
        cases hn : r_note s (nI (fn_nb b (ps_p s + 4) 4)) (ps_p s + hd) (ps_p s + sz) with
        | none => exact absurd hn hno
        | some s' =>
          have hsm := r_note_same hn
          have hgo := r_A_go hA hp (by omega) (by omega) (by omega) hn
          have hBn := r_B_note hA hB (by omega) (by omega) hn
          have hrun' : r_run b 1201 (r_s0 len) = r_run b m (r_go s' (nI (fn_nb b (ps_p s + 4) 4)) (ps_p s + hd) (ps_p s + sz)) := by rw [hrun, r_run_s (r_step_on hp hh hn)]
          have hBg := r_B_go (ct := ps_p s + hd) (e := ps_p s + sz) hsm.1 hBn
          refine M_note hz hlv hB hM2 h21 h22 h23 hn (fun I3 hfr3 h54 hM3 => b_49_137 hJ (zk_54 hz) ?_)
          have hfr3' : mFr I I3 := ⟨fun a ha => by rw [hfr3 a (by omega)]; exact hfr2.1 a ha, fun j hj => by rw [h54 j (by omega)]; exact hfr2.2 j hj⟩
          have k21 : I3 54 21 = nI (fn_nb b (ps_p s + 4) 4) := by rw [h54 21 (by omega)]; exact h21
          have k22 : I3 54 22 = nI (ps_p s + hd) := by rw [h54 22 (by omega)]; exact h22
          have k23 : I3 54 23 = nI (ps_p s + sz) := by rw [h54 23 (by omega)]; exact h23
          have hlv' : ps_lv s' < 4 := by rw [hsm.1]; exact hlv
          have hms' : r_ms len (r_go s' (nI (fn_nb b (ps_p s + 4) 4)) (ps_p s + hd) (ps_p s + sz)) < m := by omega
          refine M_isGoneInto (s := s') hz hlv' hM3.1 k21 (fun hno2 => b_49_141 hJ (fun _ => b_49_179 hJ (zk_54 hz) (fun _ => ?_) (fun y => absurd rfl y)) (zk_54 hz) (zr_54_9 hz) (zk_60 hz) (fun y => absurd rfl y) (zr_54_10 hz) (zk_61 hz) (fun y => absurd rfl y) (fun y => absurd rfl y)) (fun hyes => b_49_141 hJ (fun y => absurd y (by decide)) (zk_54 hz) (zr_54_9 hz) (zk_60 hz) (fun _ => ?_) (zr_54_10 hz) (zk_61 hz) (fun _ => ?_) (fun _ => b_49_179 hJ (zk_54 hz) (fun y => absurd y (by decide)) (fun _ => ?_)))
          · rw [k23]
            have eg : r_go s' (nI (fn_nb b (ps_p s + 4) 4)) (ps_p s + hd) (ps_p s + sz) = (ps_lv s', ps_hm s', ps_en s', ps_m s', ps_fd s', ps_p s + sz, s'.2.2.2.2.2.2) := by unfold r_go; rw [if_neg hno2]
            rw [eg] at hrun' hgo hBg hms'
            exact ih _ _ I3 hms' hrun' hfr3' hgo.1 hBg hM3
          · rw [aj_u2_at, hM3.1, nI_1]; exact vp_in_nI (by have := hyes.1; omega) (by decide)
          · rw [aj_u2_n1 (by decide), aj_u2_at, hM3.1, nI_1]; exact vp_in_nI (by have := hyes.1; omega) (by decide)
          · have hl3 := hyes.1
            have eg : r_go s' (nI (fn_nb b (ps_p s + 4) 4)) (ps_p s + hd) (ps_p s + sz) = (ps_lv s' + 1, va_up (ps_hm s') (ps_lv s' + 1) (ps_p s'), va_up (ps_en s') (ps_lv s' + 1) (ps_p s + sz), ps_m s', ps_fd s', ps_p s + hd, s'.2.2.2.2.2.2) := by unfold r_go; rw [if_pos hyes]
            rw [eg] at hrun' hgo hBg hms'
            have e8 : aj_u2 I3 54 8 (I3 54 8 + 1) 54 8 = nI (ps_lv s' + 1) := by rw [aj_u2_at, hM3.1, nI_1]
            simp only [aj_u2_n1 (show 54 ≠ 60 by decide), aj_u2_n1 (show 54 ≠ 61 by decide), aj_u2_n2 (show 22 ≠ 8 by decide), aj_u2_n2 (show 23 ≠ 8 by decide), e8, k22, k23, nI_clamp (show ps_lv s' + 1 < 2 ^ 31 by omega)]
            rw [← hsm.2.2.2]
            have u : ∀ a, a ≠ 54 → a ≠ 60 → a ≠ 61 → (aj_u2 (aj_u2 (aj_u2 I3 54 8 (I3 54 8 + 1)) 60 (ps_lv s' + 1) (nI (ps_p s'))) 61 (ps_lv s' + 1) (nI (ps_p s' + sz))) a = I3 a := fun a a1 a2 a3 => by rw [aj_u2_ne a3, aj_u2_ne a2, aj_u2_ne a1]
            have u5 : ∀ j, j ≠ 8 → (aj_u2 (aj_u2 (aj_u2 I3 54 8 (I3 54 8 + 1)) 60 (ps_lv s' + 1) (nI (ps_p s'))) 61 (ps_lv s' + 1) (nI (ps_p s' + sz))) 54 j = I3 54 j := fun j hj => by rw [aj_u2_n1 (by decide), aj_u2_n1 (by decide), aj_u2_n2 hj]
            rw [← hsm.2.2.2] at hrun' hgo hBg hms'
            refine ih _ _ _ hms' hrun' ⟨fun a ha => by rw [u a (by omega) (by omega) (by omega)]; exact hfr3'.1 a ha, fun j hj => by rw [u5 j (by omega)]; exact hfr3'.2 j hj⟩ hgo.1 hBg ⟨?_, fun i hi => ⟨?_, ?_⟩, ?_⟩
            · rw [aj_u2_n1 (by decide), aj_u2_n1 (by decide)]; exact e8
            · have hi : i ≤ ps_lv s' + 1 := hi
              show _ = nI (va_up (ps_hm s') (ps_lv s' + 1) (ps_p s') i)
              rw [aj_u2_n1 (by decide)]
              by_cases q : i = ps_lv s' + 1
              · rw [q, aj_u2_at, aj_up_eq]
              · rw [aj_u2_n2 q, aj_up_ne q, aj_u2_n1 (by decide)]; exact (hM3.2.1 i (by omega)).1
            · have hi : i ≤ ps_lv s' + 1 := hi
              show _ = nI (va_up (ps_en s') (ps_lv s' + 1) (ps_p s' + sz) i)
              by_cases q : i = ps_lv s' + 1
              · rw [q, aj_u2_at, aj_up_eq]
              · rw [aj_u2_n2 q, aj_up_ne q, aj_u2_n1 (by decide), aj_u2_n1 (by decide)]; exact (hM3.2.1 i (by omega)).2
            · have := hM3.2.2.same (fun j j1 j2 => u5 j (by omega)) (fun a a1 a2 => u a (by omega) (by omega) (by omega))
              exact this
      · rw [eEn] at z
        have z : ps_p s = ps_en s (ps_lv s) := (nI_eq (by omega) (by omega)).mp z
        have hp : ¬ ps_p s < ps_en s (ps_lv s) := by omega
        refine M_isWhole hz hlen hlv hB hM (fun hw => b_49_63 hJ (zk_54 hz) (fun _ => ?_) (zr_54_9 hz) (zk_60 hz) (fun y => absurd y (by decide)) (fun y => absurd y (by decide))) (fun hw => b_49_63 hJ (zk_54 hz) (fun y => absurd rfl y) (zr_54_9 hz) (zk_60 hz) (fun _ => vin) (fun _ => ?_))
        · have u : ∀ a, a ≠ 54 → aj_u2 I1 54 8 (I1 54 8 - 1) a = I1 a := fun a ha => aj_u2_ne ha
          have u5 : ∀ j, j ≠ 8 → aj_u2 I1 54 8 (I1 54 8 - 1) 54 j = I1 54 j := fun j hj => aj_u2_n2 hj
          have hMT : fmT (aj_u2 I1 54 8 (I1 54 8 - 1)) s := hM.2.2.same (fun j j1 j2 => u5 j (by omega)) (fun a a1 a2 => u a (by omega))
          have hfr2 : mFr I (aj_u2 I1 54 8 (I1 54 8 - 1)) := ⟨fun a ha => by rw [u a (by omega)]; exact hfr.1 a ha, fun j hj => by rw [u5 j (by omega)]; exact hfr.2 j hj⟩
          by_cases hl0 : ps_lv s = 0
          · have hneg : aj_u2 I1 54 8 (I1 54 8 - 1) 54 8 < 0 := by rw [aj_u2_at, d1, hl0]; exact sm_m1
            rw [hl0] at hB
            exact b_49_39 hJ (zk_54 hz) (fun _ => h1 _ s (by rw [hrun, r_run_n (r_step_end hp hw hl0)]) hfr2 hB (hw.1 hl0).2 hMT) (zr_54_10 hz) (zk_61 hz) (fun y => absurd hneg y) (fun y => absurd hneg y) (fun y => absurd hneg y) (fun y => absurd hneg y)
          · have hup := r_A_up hA hp hl0
            refine ih (ps_lv s - 1, s.2) _ _ (by omega) (by rw [hrun, r_run_s (r_step_up hp hw hl0)]) hfr2 hup.1 (r_B_up hB hlv hl0 hw) ⟨?_, fun j hj => ?_, hMT⟩
            · show _ = nI (ps_lv s - 1)
              rw [aj_u2_at, d1, show (1 : Int32) = nI 1 from rfl, pk_sub (by omega)]
            · have hj : j ≤ ps_lv s - 1 := hj
              rw [u 60 (by decide), u 61 (by decide)]
              exact hM.2.1 j (by omega)
        · rw [eHm]
          exact M_tell hz (b_49_80 hJ (bad I1 3 _ (by rw [hrun, r_run_l (r_step_bad hp hw)]) (by decide) hfr))
  have u : ∀ a, a ≠ 54 → a ≠ 60 → a ≠ 61 → (aj_u2 (aj_u2 (aj_u2 (aj_u2 (aj_u2 (aj_u2 I 54 8 0) 60 0 0) 61 0 ((aj_u2 (aj_u2 I 54 8 0) 60 0 0) 54 5)) 54 11 0) 54 12 0) 54 15 0) a = I a := fun a a1 a2 a3 => by rw [aj_u2_ne a1, aj_u2_ne a1, aj_u2_ne a1, aj_u2_ne a3, aj_u2_ne a2, aj_u2_ne a1]
  have u5 : ∀ j, j ≠ 8 → j ≠ 11 → j ≠ 12 → j ≠ 15 → (aj_u2 (aj_u2 (aj_u2 (aj_u2 (aj_u2 (aj_u2 I 54 8 0) 60 0 0) 61 0 ((aj_u2 (aj_u2 I 54 8 0) 60 0 0) 54 5)) 54 11 0) 54 12 0) 54 15 0) 54 j = I 54 j := fun j j1 j2 j3 j4 => by rw [aj_u2_n2 j4, aj_u2_n2 j3, aj_u2_n2 j2, aj_u2_n1 (by decide), aj_u2_n1 (by decide), aj_u2_n2 j1]
  refine key 1201 (r_s0 len) _ _ ?_ rfl ⟨fun a ha => u a (by omega) (by omega) (by omega), fun j hj => u5 j (by omega) (by omega) (by omega) (by omega)⟩ (r_A_0 len) (r_B_0 len) ⟨?_, fun i hi => ?_, ?_, ?_, fun h => absurd h (show ¬ (false = true) by decide), ?_, fun t ht => absurd ht (Nat.not_lt_zero _)⟩
  · show (len - 0) + 4 * 0 < 1201
    omega
  · show _ = nI 0
    rw [aj_u2_n2 (by decide), aj_u2_n2 (by decide), aj_u2_n2 (by decide), aj_u2_n1 (by decide), aj_u2_n1 (by decide), aj_u2_at]
    rfl
  · have hi : i ≤ 0 := hi
    have hi : i = 0 := by omega
    subst hi
    refine ⟨?_, ?_⟩
    · show _ = nI 0
      rw [aj_u2_n1 (by decide), aj_u2_n1 (by decide), aj_u2_n1 (by decide), aj_u2_n1 (by decide), aj_u2_at]
      rfl
    · show _ = nI len
      rw [aj_u2_n1 (by decide), aj_u2_n1 (by decide), aj_u2_n1 (by decide), aj_u2_at, aj_u2_n1 (by decide), aj_u2_n2 (by decide)]
      exact hf.1
  · show _ = (0 : Int32)
    rw [aj_u2_n2 (by decide), aj_u2_n2 (by decide), aj_u2_at]
  · show _ = (0 : Int32)
    rw [aj_u2_n2 (by decide), aj_u2_at]
  · show _ = nI 0
    rw [aj_u2_at]
    rfl
end ME
