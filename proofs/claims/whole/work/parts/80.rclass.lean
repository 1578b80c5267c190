/-! read: the class's contract -/
theorem C_read : RC r_rd := by
  intro Z I G Q n c du si da len b pl hz zc hS h0 h1
  have hf := hS.2.1
  have hlen := hf.2.1
  refine t_5 fun J hJ => b_5_0 hJ (zk_2 hz) (zr_2_2 hz) (zr_2_0 hz) (zk_19 hz) ?_
  refine t_104 fun J2 hJ2 => b_104_0 hJ2 (zk_19 hz) (zr_19_1 hz) (zk_20 hz) (T_forgetFault hz (b_104_7 hJ2 (zk_19 hz) (zr_19_2 hz) (zk_21 hz) ?_))
  have f0 : ∀ a, a ≠ 20 → (aj_u2 (aj_u2 I 20 0 0) 20 1 (-1)) a = I a := fun a ha => by rw [aj_u2_ne ha, aj_u2_ne ha]
  -- a fault told: nothing of reel and file has changed
  have bad : ∀ (Z' : aj_Z) (I' : aj_I) (G' : aj_G) (k p : Int32), zAll Z' → zCur Z' → r_rd len b = .inl (k, p) → (∀ a, a ≤ 19 ∨ 52 ≤ a → I' a = I a ∧ G' a = G a) → I' 20 0 = k → I' 20 1 = p → J2 43 [some (.ref 19), some (.ref 3)] [] Z' I' G' (0, 0) := by
    intro Z' I' G' k p hz' zc' he hfr e0 e1
    refine b_104_43 hJ2 (zk_19 hz') (zr_19_1 hz') (zk_20 hz') (b_5_11 hJ ?_)
    rw [e0]
    exact h0 Z' I' G' k p hz' zc' (fun a ha => hfr a (by omega)) he ⟨hS.1.same (fun a _ _ => (hfr a (by omega)).1) (fun a _ _ => (hfr a (by omega)).2), hf.same (hfr 17 (by omega)).1 (hfr 18 (by omega)).1, e1⟩
  have at0 : ∀ (I' : aj_I) (k p : Int32), aj_u2 (aj_u2 I' 20 0 k) 20 1 p 20 0 = k := fun I' k p => by rw [aj_u2_n2 (by decide), aj_u2_at]
  refine T_findAll hz zc (hf.same (f0 17 (by decide)) (f0 18 (by decide))) (fun Z' I' k p he hz' zc' hfr e0 e1 => ?_) (fun Z' I' s he hz' zc' hfr hB hm hC => ?_)
  · refine b_104_14 hJ2 (fun _ => bad Z' I' G k p hz' zc' ?_ (fun a ha => ⟨by rw [hfr a ha, f0 a (by omega)], rfl⟩) e0 e1) (zk_19 hz') (fun z => absurd rfl z)
    unfold r_rd
    simp only [he]
  · have hf1 : fC I' 17 18 len b := hf.same (by rw [hfr 17 (by omega), f0 17 (by decide)]) (by rw [hfr 18 (by omega), f0 18 (by decide)])
    have fr1 : ∀ a, a ≤ 19 ∨ 52 ≤ a → I' a = I a := fun a ha => by rw [hfr a (by omega), f0 a (by omega)]
    have hfd := hB.1
    have hmb := hB.2.2.1 hm
    have e20 : I' 20 0 = 0 ∧ I' 20 1 = -1 := by rw [hfr 20 (by omega)]; exact ⟨at0 _ _ _, aj_u2_at⟩
    refine b_104_14 hJ2 (fun z => absurd z (by decide)) (zk_19 hz') (fun _ => ?_)
    refine T_tablesAreRight hz' hf1 hB hC (fun k p h45 => b_104_21 hJ2 (fun _ => bad Z' _ G k p hz' zc' ?_ (fun a ha => ⟨by rw [aj_u2_ne (by omega), aj_u2_ne (by omega)]; exact fr1 a ha, rfl⟩) (at0 _ _ _) aj_u2_at) (zk_19 hz') (fun z => absurd rfl z)) (fun h45 hok => b_104_21 hJ2 (fun z => absurd z (by decide)) (zk_19 hz') (fun _ => ?_))
    · unfold r_rd
      simp only [he, h45]
    refine T_tablesAgreeR hz' hf1 hB hC hok (fun k p h6 => b_104_28 hJ2 (fun _ => bad Z' _ G k p hz' zc' ?_ (fun a ha => ⟨by rw [aj_u2_ne (by omega), aj_u2_ne (by omega)]; exact fr1 a ha, rfl⟩) (at0 _ _ _) aj_u2_at) (zk_19 hz') (fun z => absurd rfl z)) (fun h6 hag => b_104_28 hJ2 (fun z => absurd z (by decide)) (zk_19 hz') (fun _ => ?_))
    · unfold r_rd
      simp only [he, h45, h6]
    refine T_samplesAreInside hz' hf1 hB hm hC hok hag (fun k p I2 G2 h7 hfr2 => b_104_35 hJ2 (fun _ => bad Z' _ G2 k p hz' zc' ?_ (fun a ha => ⟨by rw [aj_u2_ne (by omega), aj_u2_ne (by omega), (hfr2 a (by omega)).1]; exact fr1 a ha, (hfr2 a (by omega)).2⟩) (at0 _ _ _) aj_u2_at) (zk_19 hz') (fun z => absurd rfl z)) (fun I2 G2 h7 hfr2 hu => b_104_35 hJ2 (fun z => absurd z (by decide)) (zk_19 hz') (fun _ => ?_))
    · unfold r_rd
      simp only [he, h45, h6, h7]
    have hf2 : fC I2 17 18 len b := hf1.same (hfr2 17 (by omega)).1 (hfr2 18 (by omega)).1
    refine T_fillReel hz' hf2 hfd (by rw [(hfr2 21 (by omega)).1]; exact hC.2.2.2.2.2.1) hok hag hu hmb.2 (fun I3 G3 hfr3 hr => ?_)
    refine b_104_43 hJ2 (zk_19 hz') (zr_19_1 hz') (zk_20 hz') (b_5_11 hJ ?_)
    have e203 : I3 20 0 = 0 ∧ I3 20 1 = -1 := by rw [(hfr3 20 (by omega)).1, (hfr2 20 (by omega)).1]; exact e20
    rw [e203.1]
    refine h1 Z' I3 G3 _ _ _ _ _ hz' zc' (fun a ha => ⟨by rw [(hfr3 a (by omega)).1, (hfr2 a (by omega)).1]; exact fr1 a (by omega), by rw [(hfr3 a (by omega)).2, (hfr2 a (by omega)).2]⟩) ?_ ⟨hr, hf2.same (hfr3 17 (by omega)).1 (hfr3 18 (by omega)).1, e203.2⟩
    unfold r_rd
    simp only [he, h45, h6, h7]
    rfl
