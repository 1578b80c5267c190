/-! read: the reference's contract -/
theorem M_read : RM r_rd := by
  intro Z I G Q n c du si da len b pl hz hS h0 h1
  have hf := hS.2.1
  have hlen := hf.2.1
  have bad : ∀ (I' : aj_I) (G' : aj_G) (k p : Int32), r_rd len b = .inl (k, p) → (∀ a, a < 54 ∨ (55 ≤ a ∧ a ≤ 59) → I' a = I a) → (∀ a, a ≠ 70 → G' a = G a) → (∀ j, j ≤ 6 → I' 54 j = I 54 j) → I' 54 7 = p → Q (some (.int k)) Z I' G' := by
    intro I' G' k p he hI hG h54 e7
    refine h0 I' G' k p (fun a ha => ⟨hI a (by omega), hG a (by omega)⟩) he ⟨?_, hf.same (h54 5 (by decide)) (hI 59 (by omega)), e7⟩
    have h := hS.1
    unfold mR at h ⊢
    rw [h54 0 (by decide), hI 55 (by omega), hI 56 (by omega), hI 57 (by omega), hG 58 (by decide)]
    exact h
  refine t_67 fun J hJ => b_67_0 hJ (zk_54 hz) (M_readBoxes hz hf (fun I' k p he hk hI h54 e7 => b_67_4 hJ (fun _ => b_67_14 hJ (fun _ _ => bad I' G k p ?_ (fun a ha => hI a (by omega)) (fun _ _ => rfl) h54 e7) (zk_54 hz) (fun z y => absurd y z) (fun z => absurd z hk)) (zk_54 hz) (fun z => absurd z hk)) (fun I1 s he hfr hB hm hM => b_67_4 hJ (fun z => absurd rfl z) (zk_54 hz) (fun _ => ?_)))
  · unfold r_rd
    simp only [he]
  have hf1 : mF I1 len b := hf.same (hfr.2 5 (by decide)) (hfr.1 59 (by omega))
  refine M_readTables hz hf1 hB hM (fun k p h45 hk => b_67_13 hJ (b_67_14 hJ (fun _ _ => bad _ G k p ?_ (fun a ha => by rw [aj_u2_ne (by omega)]; exact hfr.1 a (by omega)) (fun _ _ => rfl) (fun j hj => by rw [aj_u2_n2 (by omega)]; exact hfr.2 j (by omega)) aj_u2_at) (zk_54 hz) (fun z y => absurd y z) (fun z => absurd z hk))) (fun h45 hok => b_67_13 hJ (b_67_14 hJ (fun z => absurd rfl z) (zk_54 hz) (fun z => absurd rfl z) (fun _ => ?_)))
  · unfold r_rd
    simp only [he, h45]
  have hmb := hB.2.2.1 hm
  refine M_readSamples hz hf1 hB hm hM hok (fun k p I2 G2 h67 hk hI2 hG2 => b_67_22 hJ (fun _ => bad _ G2 k p ?_ (fun a ha => by rw [aj_u2_ne (by omega), hI2 a (by omega) (by omega) (by omega)]; exact hfr.1 a (by omega)) hG2 (fun j hj => by rw [aj_u2_n2 (by omega), hI2 54 (by decide) (by decide) (by decide)]; exact hfr.2 j (by omega)) aj_u2_at) (zk_54 hz) (fun z => absurd z hk)) (fun I2 G2 h6 h7 hI2 hG2 hall => b_67_22 hJ (fun z => absurd rfl z) (zk_54 hz) (fun _ => ?_))
  · rcases h67 with h6 | ⟨h6, h7⟩
    · unfold r_rd
      simp only [he, h45, h6]
    · unfold r_rd
      simp only [he, h45, h6, h7]
  have hf2 : mF I2 len b := hf1.same (by rw [hI2 54 (by decide) (by decide) (by decide)]) (hI2 59 (by decide) (by decide) (by decide))
  refine M_keep hz hf2 hB.1 (by rw [hI2 54 (by decide) (by decide) (by decide)]; exact hM.2.2.2.1) hok hmb.2 hall (fun I3 G3 hI3 hG3 h54 hR => b_67_31 hJ (zk_54 hz) ?_)
  have u : ∀ a, a ≠ 54 → aj_u2 I3 54 7 (-1) a = I3 a := fun a ha => aj_u2_ne ha
  have u5 : ∀ j, j ≠ 7 → aj_u2 I3 54 7 (-1) 54 j = I3 54 j := fun j hj => aj_u2_n2 hj
  refine h1 _ G3 (ps_fd s) (fun t => s_n b (ps_ct s t)) (fun t i => s_D b (ps_wd s t) (ps_ct s t) i) (fun t i => s_S b (ps_wd s t) (ps_ct s t) i) (s_dat b s) (fun a ha => ⟨by rw [u a (by omega), hI3 a (by omega), hI2 a (by omega) (by omega) (by omega)]; exact hfr.1 a (by omega), by rw [hG3 a (by omega), hG2 a (by omega)]⟩) ?_ ⟨?_, (hf2.same (h54 5 (by decide)) (hI3 59 (by omega))).same (u5 5 (by decide)) (u 59 (by decide)), aj_u2_at⟩
  · unfold r_rd
    simp only [he, h45, h6, h7]
    rfl
  · have h := hR
    unfold mR at h ⊢
    rw [u5 0 (by decide), u 55 (by decide), u 56 (by decide), u 57 (by decide)]
    exact h
