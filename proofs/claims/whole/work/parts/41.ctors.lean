/-! the constructors run: contracts -/
set_option maxRecDepth 20000 in
theorem ctor_5 {d : Nat} {Q : aj_Q} (hQ : Q none zs_11 is_9 aj_G0) : aj_T (d + 1) 3 48 129 [.ref 5] zs_5 is_5 aj_G0 Q := by
  refine t_129 fun J hJ => ?_
  refine s_aload_n hJ d_129_0 rfl ?_
  refine s_objinit hJ lo_8_3 d_129_1 (Nat.le_of_ble_eq_true rfl) ?_
  refine s_aload_n hJ d_129_4 rfl ?_
  refine s_bipush (v := 16) hJ d_129_5 (by decide) ?_
  refine s_newa (n := 16) hJ pa_0 d_129_7 (by rfl) (by decide) (by decide) (by decide) ?_
  refine en_6 ?_
  refine s_putr hJ lf_8_9 (Or.inr ⟨rfl, rfl⟩) rfl (Or.inr ⟨_, rfl⟩) d_129_9 (show zs_6.2.1 5 = some (.inl 8) from rfl) ?_
  refine en_7 ?_
  refine s_aload_n hJ d_129_12 rfl ?_
  refine s_bipush (v := 16) hJ d_129_13 (by decide) ?_
  refine s_newa (n := 16) hJ pa_0 d_129_15 (by rfl) (by decide) (by decide) (by decide) ?_
  refine en_8 ?_
  refine s_putr hJ lf_8_15 (Or.inr ⟨rfl, rfl⟩) rfl (Or.inr ⟨_, rfl⟩) d_129_17 (show zs_8.2.1 5 = some (.inl 8) from rfl) ?_
  refine en_9 ?_
  refine s_aload_n hJ d_129_20 rfl ?_
  refine s_bipush (v := 16) hJ d_129_21 (by decide) ?_
  refine s_newa (n := 16) hJ pa_1 d_129_23 (by rfl) (by decide) (by decide) (by decide) ?_
  refine en_10 ?_
  refine s_putr hJ lf_8_18 (Or.inr ⟨rfl, rfl⟩) rfl (Or.inr ⟨_, rfl⟩) d_129_25 (show zs_10.2.1 5 = some (.inl 8) from rfl) ?_
  refine en_11 ?_
  refine s_aload_n hJ d_129_28 rfl ?_
  refine s_iconst_0 hJ d_129_29 ?_
  refine s_puti hJ lf_8_22 rfl d_129_30 (show zs_11.2.1 5 = some (.inl 8) from rfl) ?_
  refine ei_9 ?_
  exact s_vret hJ d_129_33 rfl hQ
set_option maxRecDepth 20000 in
theorem ctor_9 {d : Nat} {Q : aj_Q} (hQ : Q none zs_19 is_14 aj_G0) : aj_T (d + 1) 3 48 129 [.ref 9] zs_13 is_10 aj_G0 Q := by
  refine t_129 fun J hJ => ?_
  refine s_aload_n hJ d_129_0 rfl ?_
  refine s_objinit hJ lo_8_3 d_129_1 (Nat.le_of_ble_eq_true rfl) ?_
  refine s_aload_n hJ d_129_4 rfl ?_
  refine s_bipush (v := 16) hJ d_129_5 (by decide) ?_
  refine s_newa (n := 16) hJ pa_0 d_129_7 (by rfl) (by decide) (by decide) (by decide) ?_
  refine en_14 ?_
  refine s_putr hJ lf_8_9 (Or.inr ⟨rfl, rfl⟩) rfl (Or.inr ⟨_, rfl⟩) d_129_9 (show zs_14.2.1 9 = some (.inl 8) from rfl) ?_
  refine en_15 ?_
  refine s_aload_n hJ d_129_12 rfl ?_
  refine s_bipush (v := 16) hJ d_129_13 (by decide) ?_
  refine s_newa (n := 16) hJ pa_0 d_129_15 (by rfl) (by decide) (by decide) (by decide) ?_
  refine en_16 ?_
  refine s_putr hJ lf_8_15 (Or.inr ⟨rfl, rfl⟩) rfl (Or.inr ⟨_, rfl⟩) d_129_17 (show zs_16.2.1 9 = some (.inl 8) from rfl) ?_
  refine en_17 ?_
  refine s_aload_n hJ d_129_20 rfl ?_
  refine s_bipush (v := 16) hJ d_129_21 (by decide) ?_
  refine s_newa (n := 16) hJ pa_1 d_129_23 (by rfl) (by decide) (by decide) (by decide) ?_
  refine en_18 ?_
  refine s_putr hJ lf_8_18 (Or.inr ⟨rfl, rfl⟩) rfl (Or.inr ⟨_, rfl⟩) d_129_25 (show zs_18.2.1 9 = some (.inl 8) from rfl) ?_
  refine en_19 ?_
  refine s_aload_n hJ d_129_28 rfl ?_
  refine s_iconst_0 hJ d_129_29 ?_
  refine s_puti hJ lf_8_22 rfl d_129_30 (show zs_19.2.1 9 = some (.inl 8) from rfl) ?_
  refine ei_14 ?_
  exact s_vret hJ d_129_33 rfl hQ
set_option maxRecDepth 20000 in
theorem ctor_13 {d : Nat} {Q : aj_Q} (hQ : Q none zs_27 is_19 aj_G0) : aj_T (d + 1) 3 48 129 [.ref 13] zs_21 is_15 aj_G0 Q := by
  refine t_129 fun J hJ => ?_
  refine s_aload_n hJ d_129_0 rfl ?_
  refine s_objinit hJ lo_8_3 d_129_1 (Nat.le_of_ble_eq_true rfl) ?_
  refine s_aload_n hJ d_129_4 rfl ?_
  refine s_bipush (v := 16) hJ d_129_5 (by decide) ?_
  refine s_newa (n := 16) hJ pa_0 d_129_7 (by rfl) (by decide) (by decide) (by decide) ?_
  refine en_22 ?_
  refine s_putr hJ lf_8_9 (Or.inr ⟨rfl, rfl⟩) rfl (Or.inr ⟨_, rfl⟩) d_129_9 (show zs_22.2.1 13 = some (.inl 8) from rfl) ?_
  refine en_23 ?_
  refine s_aload_n hJ d_129_12 rfl ?_
  refine s_bipush (v := 16) hJ d_129_13 (by decide) ?_
  refine s_newa (n := 16) hJ pa_0 d_129_15 (by rfl) (by decide) (by decide) (by decide) ?_
  refine en_24 ?_
  refine s_putr hJ lf_8_15 (Or.inr ⟨rfl, rfl⟩) rfl (Or.inr ⟨_, rfl⟩) d_129_17 (show zs_24.2.1 13 = some (.inl 8) from rfl) ?_
  refine en_25 ?_
  refine s_aload_n hJ d_129_20 rfl ?_
  refine s_bipush (v := 16) hJ d_129_21 (by decide) ?_
  refine s_newa (n := 16) hJ pa_1 d_129_23 (by rfl) (by decide) (by decide) (by decide) ?_
  refine en_26 ?_
  refine s_putr hJ lf_8_18 (Or.inr ⟨rfl, rfl⟩) rfl (Or.inr ⟨_, rfl⟩) d_129_25 (show zs_26.2.1 13 = some (.inl 8) from rfl) ?_
  refine en_27 ?_
  refine s_aload_n hJ d_129_28 rfl ?_
  refine s_iconst_0 hJ d_129_29 ?_
  refine s_puti hJ lf_8_22 rfl d_129_30 (show zs_27.2.1 13 = some (.inl 8) from rfl) ?_
  refine ei_19 ?_
  exact s_vret hJ d_129_33 rfl hQ
set_option maxRecDepth 20000 in
theorem ctor_3 {d : Nat} {Q : aj_Q} (hQ : Q none zs_28 is_19 aj_G0) : aj_T (d + 2) 13 159 110 [.ref 3] zs_2 is_2 aj_G0 Q := by
  refine t_110 fun J hJ => ?_
  refine s_aload_n hJ d_110_0 rfl ?_
  refine s_objinit hJ lo_6_3 d_110_1 (Nat.le_of_ble_eq_true rfl) ?_
  refine s_aload_n hJ d_110_4 rfl ?_
  refine s_iconst_3 hJ d_110_5 ?_
  refine s_newr (n := 3) hJ la_6_9 d_110_6 (by rfl) (by decide) (by decide) (by decide) ?_
  refine en_3 ?_
  refine s_putr hJ lf_6_11 (Or.inr ⟨rfl, rfl⟩) rfl (Or.inr ⟨_, rfl⟩) d_110_9 (show zs_3.2.1 3 = some (.inl 6) from rfl) ?_
  refine en_4 ?_
  refine s_aload_n hJ d_110_12 rfl ?_
  refine s_iconst_0 hJ d_110_13 ?_
  refine s_puti hJ lf_6_17 rfl d_110_14 (show zs_4.2.1 3 = some (.inl 6) from rfl) ?_
  refine ei_4 ?_
  refine s_iconst_0 hJ d_110_17 ?_
  refine s_istore_n hJ d_110_18 (Nat.le_of_ble_eq_true rfl) ?_
  refine s_iload_n hJ d_110_19 rfl ?_
  refine s_iconst_3 hJ d_110_20 ?_
  refine s_icmp_ge (tgt := 43) hJ d_110_21 rfl (fun h => absurd h (by decide)) (fun _ => ?_)
  refine s_aload_n hJ d_110_24 rfl ?_
  refine s_getr hJ lf_6_11 rfl d_110_25 (show zs_4.2.1 3 = some (.inl 6) from rfl) (show zs_4.2.2 3 0 = .ref 4 from rfl) ?_
  refine s_iload_n hJ d_110_28 rfl ?_
  refine s_new hJ ln_6_9 d_110_29 (by decide) (by decide) ?_
  refine en_5 ?_
  refine s_dup hJ d_110_32 rfl ?_
  refine s_I0 (k := 3) (w := 48) hJ lm_6_21 d_110_33 (Nat.le_of_ble_eq_true rfl) (fun _ _ => ⟨by decide, by decide⟩) ?_
  refine ctor_5 (d := d + 0) ?_
  refine s_aast hJ d_110_36 (show zs_11.2.1 4 = some (.inr (5, 3)) from rfl) tc_5 (show zs_11.2.1 5 = some (.inl 8) from rfl) (by unfold vp_in; decide) ?_
  refine en_12 ?_
  refine s_iinc (v := 1) hJ d_110_37 rfl (by decide) ?_
  refine s_goto (tgt := 19) hJ d_110_40 rfl ?_
  refine s_iload_n hJ d_110_19 rfl ?_
  refine s_iconst_3 hJ d_110_20 ?_
  refine s_icmp_ge (tgt := 43) hJ d_110_21 rfl (fun h => absurd h (by decide)) (fun _ => ?_)
  refine s_aload_n hJ d_110_24 rfl ?_
  refine s_getr hJ lf_6_11 rfl d_110_25 (show zs_12.2.1 3 = some (.inl 6) from rfl) (show zs_12.2.2 3 0 = .ref 4 from rfl) ?_
  refine s_iload_n hJ d_110_28 rfl ?_
  refine s_new hJ ln_6_9 d_110_29 (by decide) (by decide) ?_
  refine en_13 ?_
  refine s_dup hJ d_110_32 rfl ?_
  refine s_I0 (k := 3) (w := 48) hJ lm_6_21 d_110_33 (Nat.le_of_ble_eq_true rfl) (fun _ _ => ⟨by decide, by decide⟩) ?_
  refine ctor_9 (d := d + 0) ?_
  refine s_aast hJ d_110_36 (show zs_19.2.1 4 = some (.inr (5, 3)) from rfl) tc_5 (show zs_19.2.1 9 = some (.inl 8) from rfl) (by unfold vp_in; decide) ?_
  refine en_20 ?_
  refine s_iinc (v := 1) hJ d_110_37 rfl (by decide) ?_
  refine s_goto (tgt := 19) hJ d_110_40 rfl ?_
  refine s_iload_n hJ d_110_19 rfl ?_
  refine s_iconst_3 hJ d_110_20 ?_
  refine s_icmp_ge (tgt := 43) hJ d_110_21 rfl (fun h => absurd h (by decide)) (fun _ => ?_)
  refine s_aload_n hJ d_110_24 rfl ?_
  refine s_getr hJ lf_6_11 rfl d_110_25 (show zs_20.2.1 3 = some (.inl 6) from rfl) (show zs_20.2.2 3 0 = .ref 4 from rfl) ?_
  refine s_iload_n hJ d_110_28 rfl ?_
  refine s_new hJ ln_6_9 d_110_29 (by decide) (by decide) ?_
  refine en_21 ?_
  refine s_dup hJ d_110_32 rfl ?_
  refine s_I0 (k := 3) (w := 48) hJ lm_6_21 d_110_33 (Nat.le_of_ble_eq_true rfl) (fun _ _ => ⟨by decide, by decide⟩) ?_
  refine ctor_13 (d := d + 0) ?_
  refine s_aast hJ d_110_36 (show zs_27.2.1 4 = some (.inr (5, 3)) from rfl) tc_5 (show zs_27.2.1 13 = some (.inl 8) from rfl) (by unfold vp_in; decide) ?_
  refine en_28 ?_
  refine s_iinc (v := 1) hJ d_110_37 rfl (by decide) ?_
  refine s_goto (tgt := 19) hJ d_110_40 rfl ?_
  refine s_iload_n hJ d_110_19 rfl ?_
  refine s_iconst_3 hJ d_110_20 ?_
  refine s_icmp_ge (tgt := 43) hJ d_110_21 rfl (fun _ => ?_) (fun h => absurd (by decide) h)
  exact s_vret hJ d_110_43 rfl hQ
set_option maxRecDepth 20000 in
theorem ctor_17 {d : Nat} {Q : aj_Q} (hQ : Q none zs_32 is_22 aj_G0) : aj_T (d + 1) 1 1200 80 [.ref 17] zs_30 is_20 aj_G0 Q := by
  refine t_80 fun J hJ => ?_
  refine s_aload_n hJ d_80_0 rfl ?_
  refine s_objinit hJ lo_2_3 d_80_1 (Nat.le_of_ble_eq_true rfl) ?_
  refine s_aload_n hJ d_80_4 rfl ?_
  refine s_sipush (v := 1200) hJ d_80_5 (by decide) ?_
  refine s_newa (n := 1200) hJ pa_2 d_80_8 (by rfl) (by decide) (by decide) (by decide) ?_
  refine en_31 ?_
  refine s_putr hJ lf_2_9 (Or.inr ⟨rfl, rfl⟩) rfl (Or.inr ⟨_, rfl⟩) d_80_10 (show zs_31.2.1 17 = some (.inl 2) from rfl) ?_
  refine en_32 ?_
  refine s_aload_n hJ d_80_13 rfl ?_
  refine s_iconst_0 hJ d_80_14 ?_
  refine s_puti hJ lf_2_15 rfl d_80_15 (show zs_32.2.1 17 = some (.inl 2) from rfl) ?_
  refine ei_22 ?_
  exact s_vret hJ d_80_18 rfl hQ
set_option maxRecDepth 20000 in
theorem ctor_20 {d : Nat} {Q : aj_Q} (hQ : Q none zs_36 is_26 aj_G0) : aj_T (d + 1) 0 0 88 [.ref 20] zs_36 is_24 aj_G0 Q := by
  refine t_88 fun J hJ => ?_
  refine s_aload_n hJ d_88_0 rfl ?_
  refine s_objinit hJ lo_3_3 d_88_1 (Nat.le_of_ble_eq_true rfl) ?_
  refine s_aload_n hJ d_88_4 rfl ?_
  refine s_iconst_0 hJ d_88_5 ?_
  refine s_puti hJ lf_3_9 rfl d_88_6 (show zs_36.2.1 20 = some (.inl 3) from rfl) ?_
  refine ei_25 ?_
  refine s_aload_n hJ d_88_9 rfl ?_
  refine s_iconst_m1 hJ d_88_10 ?_
  refine s_puti hJ lf_3_15 rfl d_88_11 (show zs_36.2.1 20 = some (.inl 3) from rfl) ?_
  refine ei_26 ?_
  exact s_vret hJ d_88_14 rfl hQ
set_option maxRecDepth 20000 in
theorem ctor_30 {d : Nat} {Q : aj_Q} (hQ : Q none zs_57 is_54 aj_G0) : aj_T (d + 1) 0 0 115 [.ref 30, .ref 17] zs_56 is_48 aj_G0 Q := by
  refine t_115 fun J hJ => ?_
  refine s_aload_n hJ d_115_0 rfl ?_
  refine s_objinit hJ lo_7_3 d_115_1 (Nat.le_of_ble_eq_true rfl) ?_
  refine s_aload_n hJ d_115_4 rfl ?_
  refine s_iconst_m1 hJ d_115_5 ?_
  refine s_puti hJ lf_7_9 rfl d_115_6 (show zs_56.2.1 30 = some (.inl 7) from rfl) ?_
  refine ei_49 ?_
  refine s_aload_n hJ d_115_9 rfl ?_
  refine s_iconst_0 hJ d_115_10 ?_
  refine s_puti hJ lf_7_15 rfl d_115_11 (show zs_56.2.1 30 = some (.inl 7) from rfl) ?_
  refine ei_50 ?_
  refine s_aload_n hJ d_115_14 rfl ?_
  refine s_iconst_0 hJ d_115_15 ?_
  refine s_puti hJ lf_7_18 rfl d_115_16 (show zs_56.2.1 30 = some (.inl 7) from rfl) ?_
  refine ei_51 ?_
  refine s_aload_n hJ d_115_19 rfl ?_
  refine s_iconst_0 hJ d_115_20 ?_
  refine s_puti hJ lf_7_21 rfl d_115_21 (show zs_56.2.1 30 = some (.inl 7) from rfl) ?_
  refine ei_52 ?_
  refine s_aload_n hJ d_115_24 rfl ?_
  refine s_bipush (v := 8) hJ d_115_25 (by decide) ?_
  refine s_puti hJ lf_7_24 rfl d_115_27 (show zs_56.2.1 30 = some (.inl 7) from rfl) ?_
  refine ei_53 ?_
  refine s_aload_n hJ d_115_30 rfl ?_
  refine s_iconst_4 hJ d_115_31 ?_
  refine s_puti hJ lf_7_27 rfl d_115_32 (show zs_56.2.1 30 = some (.inl 7) from rfl) ?_
  refine ei_54 ?_
  refine s_aload_n hJ d_115_35 rfl ?_
  refine s_aload_n hJ d_115_36 rfl ?_
  refine s_putr hJ lf_7_30 (Or.inr ⟨rfl, rfl⟩) rfl (Or.inr ⟨_, rfl⟩) d_115_37 (show zs_56.2.1 30 = some (.inl 7) from rfl) ?_
  refine en_57 ?_
  exact s_vret hJ d_115_40 rfl hQ
set_option maxRecDepth 20000 in
theorem ctor_31 {d : Nat} {Q : aj_Q} (hQ : Q none zs_60 is_61 aj_G0) : aj_T (d + 1) 0 0 115 [.ref 31, .ref 17] zs_59 is_55 aj_G0 Q := by
  refine t_115 fun J hJ => ?_
  refine s_aload_n hJ d_115_0 rfl ?_
  refine s_objinit hJ lo_7_3 d_115_1 (Nat.le_of_ble_eq_true rfl) ?_
  refine s_aload_n hJ d_115_4 rfl ?_
  refine s_iconst_m1 hJ d_115_5 ?_
  refine s_puti hJ lf_7_9 rfl d_115_6 (show zs_59.2.1 31 = some (.inl 7) from rfl) ?_
  refine ei_56 ?_
  refine s_aload_n hJ d_115_9 rfl ?_
  refine s_iconst_0 hJ d_115_10 ?_
  refine s_puti hJ lf_7_15 rfl d_115_11 (show zs_59.2.1 31 = some (.inl 7) from rfl) ?_
  refine ei_57 ?_
  refine s_aload_n hJ d_115_14 rfl ?_
  refine s_iconst_0 hJ d_115_15 ?_
  refine s_puti hJ lf_7_18 rfl d_115_16 (show zs_59.2.1 31 = some (.inl 7) from rfl) ?_
  refine ei_58 ?_
  refine s_aload_n hJ d_115_19 rfl ?_
  refine s_iconst_0 hJ d_115_20 ?_
  refine s_puti hJ lf_7_21 rfl d_115_21 (show zs_59.2.1 31 = some (.inl 7) from rfl) ?_
  refine ei_59 ?_
  refine s_aload_n hJ d_115_24 rfl ?_
  refine s_bipush (v := 8) hJ d_115_25 (by decide) ?_
  refine s_puti hJ lf_7_24 rfl d_115_27 (show zs_59.2.1 31 = some (.inl 7) from rfl) ?_
  refine ei_60 ?_
  refine s_aload_n hJ d_115_30 rfl ?_
  refine s_iconst_4 hJ d_115_31 ?_
  refine s_puti hJ lf_7_27 rfl d_115_32 (show zs_59.2.1 31 = some (.inl 7) from rfl) ?_
  refine ei_61 ?_
  refine s_aload_n hJ d_115_35 rfl ?_
  refine s_aload_n hJ d_115_36 rfl ?_
  refine s_putr hJ lf_7_30 (Or.inr ⟨rfl, rfl⟩) rfl (Or.inr ⟨_, rfl⟩) d_115_37 (show zs_59.2.1 31 = some (.inl 7) from rfl) ?_
  refine en_60 ?_
  exact s_vret hJ d_115_40 rfl hQ
set_option maxRecDepth 20000 in
theorem ctor_32 {d : Nat} {Q : aj_Q} (hQ : Q none zs_63 is_68 aj_G0) : aj_T (d + 1) 0 0 115 [.ref 32, .ref 17] zs_62 is_62 aj_G0 Q := by
  refine t_115 fun J hJ => ?_
  refine s_aload_n hJ d_115_0 rfl ?_
  refine s_objinit hJ lo_7_3 d_115_1 (Nat.le_of_ble_eq_true rfl) ?_
  refine s_aload_n hJ d_115_4 rfl ?_
  refine s_iconst_m1 hJ d_115_5 ?_
  refine s_puti hJ lf_7_9 rfl d_115_6 (show zs_62.2.1 32 = some (.inl 7) from rfl) ?_
  refine ei_63 ?_
  refine s_aload_n hJ d_115_9 rfl ?_
  refine s_iconst_0 hJ d_115_10 ?_
  refine s_puti hJ lf_7_15 rfl d_115_11 (show zs_62.2.1 32 = some (.inl 7) from rfl) ?_
  refine ei_64 ?_
  refine s_aload_n hJ d_115_14 rfl ?_
  refine s_iconst_0 hJ d_115_15 ?_
  refine s_puti hJ lf_7_18 rfl d_115_16 (show zs_62.2.1 32 = some (.inl 7) from rfl) ?_
  refine ei_65 ?_
  refine s_aload_n hJ d_115_19 rfl ?_
  refine s_iconst_0 hJ d_115_20 ?_
  refine s_puti hJ lf_7_21 rfl d_115_21 (show zs_62.2.1 32 = some (.inl 7) from rfl) ?_
  refine ei_66 ?_
  refine s_aload_n hJ d_115_24 rfl ?_
  refine s_bipush (v := 8) hJ d_115_25 (by decide) ?_
  refine s_puti hJ lf_7_24 rfl d_115_27 (show zs_62.2.1 32 = some (.inl 7) from rfl) ?_
  refine ei_67 ?_
  refine s_aload_n hJ d_115_30 rfl ?_
  refine s_iconst_4 hJ d_115_31 ?_
  refine s_puti hJ lf_7_27 rfl d_115_32 (show zs_62.2.1 32 = some (.inl 7) from rfl) ?_
  refine ei_68 ?_
  refine s_aload_n hJ d_115_35 rfl ?_
  refine s_aload_n hJ d_115_36 rfl ?_
  refine s_putr hJ lf_7_30 (Or.inr ⟨rfl, rfl⟩) rfl (Or.inr ⟨_, rfl⟩) d_115_37 (show zs_62.2.1 32 = some (.inl 7) from rfl) ?_
  refine en_63 ?_
  exact s_vret hJ d_115_40 rfl hQ
set_option maxRecDepth 20000 in
theorem ctor_33 {d : Nat} {Q : aj_Q} (hQ : Q none zs_66 is_75 aj_G0) : aj_T (d + 1) 0 0 115 [.ref 33, .ref 17] zs_65 is_69 aj_G0 Q := by
  refine t_115 fun J hJ => ?_
  refine s_aload_n hJ d_115_0 rfl ?_
  refine s_objinit hJ lo_7_3 d_115_1 (Nat.le_of_ble_eq_true rfl) ?_
  refine s_aload_n hJ d_115_4 rfl ?_
  refine s_iconst_m1 hJ d_115_5 ?_
  refine s_puti hJ lf_7_9 rfl d_115_6 (show zs_65.2.1 33 = some (.inl 7) from rfl) ?_
  refine ei_70 ?_
  refine s_aload_n hJ d_115_9 rfl ?_
  refine s_iconst_0 hJ d_115_10 ?_
  refine s_puti hJ lf_7_15 rfl d_115_11 (show zs_65.2.1 33 = some (.inl 7) from rfl) ?_
  refine ei_71 ?_
  refine s_aload_n hJ d_115_14 rfl ?_
  refine s_iconst_0 hJ d_115_15 ?_
  refine s_puti hJ lf_7_18 rfl d_115_16 (show zs_65.2.1 33 = some (.inl 7) from rfl) ?_
  refine ei_72 ?_
  refine s_aload_n hJ d_115_19 rfl ?_
  refine s_iconst_0 hJ d_115_20 ?_
  refine s_puti hJ lf_7_21 rfl d_115_21 (show zs_65.2.1 33 = some (.inl 7) from rfl) ?_
  refine ei_73 ?_
  refine s_aload_n hJ d_115_24 rfl ?_
  refine s_bipush (v := 8) hJ d_115_25 (by decide) ?_
  refine s_puti hJ lf_7_24 rfl d_115_27 (show zs_65.2.1 33 = some (.inl 7) from rfl) ?_
  refine ei_74 ?_
  refine s_aload_n hJ d_115_30 rfl ?_
  refine s_iconst_4 hJ d_115_31 ?_
  refine s_puti hJ lf_7_27 rfl d_115_32 (show zs_65.2.1 33 = some (.inl 7) from rfl) ?_
  refine ei_75 ?_
  refine s_aload_n hJ d_115_35 rfl ?_
  refine s_aload_n hJ d_115_36 rfl ?_
  refine s_putr hJ lf_7_30 (Or.inr ⟨rfl, rfl⟩) rfl (Or.inr ⟨_, rfl⟩) d_115_37 (show zs_65.2.1 33 = some (.inl 7) from rfl) ?_
  refine en_66 ?_
  exact s_vret hJ d_115_40 rfl hQ
set_option maxRecDepth 20000 in
theorem ctor_25 {d : Nat} {Q : aj_Q} (hQ : Q none zs_67 is_75 aj_G0) : aj_T (d + 2) 8 80 138 [.ref 25, .ref 17] zs_47 is_41 aj_G0 Q := by
  refine t_138 fun J hJ => ?_
  refine s_aload_n hJ d_138_0 rfl ?_
  refine s_objinit hJ lo_9_3 d_138_1 (Nat.le_of_ble_eq_true rfl) ?_
  refine s_aload_n hJ d_138_4 rfl ?_
  refine s_iconst_4 hJ d_138_5 ?_
  refine s_newr (n := 4) hJ la_9_9 d_138_6 (by rfl) (by decide) (by decide) (by decide) ?_
  refine en_48 ?_
  refine s_putr hJ lf_9_11 (Or.inr ⟨rfl, rfl⟩) rfl (Or.inr ⟨_, rfl⟩) d_138_9 (show zs_48.2.1 25 = some (.inl 9) from rfl) ?_
  refine en_49 ?_
  refine s_aload_n hJ d_138_12 rfl ?_
  refine s_bipush (v := 16) hJ d_138_13 (by decide) ?_
  refine s_newa (n := 16) hJ pa_0 d_138_15 (by rfl) (by decide) (by decide) (by decide) ?_
  refine en_50 ?_
  refine s_putr hJ lf_9_17 (Or.inr ⟨rfl, rfl⟩) rfl (Or.inr ⟨_, rfl⟩) d_138_17 (show zs_50.2.1 25 = some (.inl 9) from rfl) ?_
  refine en_51 ?_
  refine s_aload_n hJ d_138_20 rfl ?_
  refine s_bipush (v := 16) hJ d_138_21 (by decide) ?_
  refine s_newa (n := 16) hJ pa_0 d_138_23 (by rfl) (by decide) (by decide) (by decide) ?_
  refine en_52 ?_
  refine s_putr hJ lf_9_21 (Or.inr ⟨rfl, rfl⟩) rfl (Or.inr ⟨_, rfl⟩) d_138_25 (show zs_52.2.1 25 = some (.inl 9) from rfl) ?_
  refine en_53 ?_
  refine s_aload_n hJ d_138_28 rfl ?_
  refine s_bipush (v := 16) hJ d_138_29 (by decide) ?_
  refine s_newa (n := 16) hJ pa_1 d_138_31 (by rfl) (by decide) (by decide) (by decide) ?_
  refine en_54 ?_
  refine s_putr hJ lf_9_24 (Or.inr ⟨rfl, rfl⟩) rfl (Or.inr ⟨_, rfl⟩) d_138_33 (show zs_54.2.1 25 = some (.inl 9) from rfl) ?_
  refine en_55 ?_
  refine s_aload_n hJ d_138_36 rfl ?_
  refine s_iconst_0 hJ d_138_37 ?_
  refine s_puti hJ lf_9_28 rfl d_138_38 (show zs_55.2.1 25 = some (.inl 9) from rfl) ?_
  refine ei_46 ?_
  refine s_aload_n hJ d_138_41 rfl ?_
  refine s_iconst_m1 hJ d_138_42 ?_
  refine s_puti hJ lf_9_32 rfl d_138_43 (show zs_55.2.1 25 = some (.inl 9) from rfl) ?_
  refine ei_47 ?_
  refine s_iconst_0 hJ d_138_46 ?_
  refine s_istore_n hJ d_138_47 (Nat.le_of_ble_eq_true rfl) ?_
  refine s_iload_n hJ d_138_48 rfl ?_
  refine s_iconst_4 hJ d_138_49 ?_
  refine s_icmp_ge (tgt := 73) hJ d_138_50 rfl (fun h => absurd h (by decide)) (fun _ => ?_)
  refine s_aload_n hJ d_138_53 rfl ?_
  refine s_getr hJ lf_9_11 rfl d_138_54 (show zs_55.2.1 25 = some (.inl 9) from rfl) (show zs_55.2.2 25 0 = .ref 26 from rfl) ?_
  refine s_iload_n hJ d_138_57 rfl ?_
  refine s_new hJ ln_9_9 d_138_58 (by decide) (by decide) ?_
  refine en_56 ?_
  refine s_dup hJ d_138_61 rfl ?_
  refine s_aload_n hJ d_138_62 rfl ?_
  refine s_I1 (k := 0) (w := 0) hJ lm_9_35 d_138_63 (Nat.le_of_ble_eq_true rfl) (fun _ _ => ⟨by decide, by decide⟩) ?_
  refine ctor_30 (d := d + 0) ?_
  refine s_aast hJ d_138_66 (show zs_57.2.1 26 = some (.inr (6, 4)) from rfl) tc_6 (show zs_57.2.1 30 = some (.inl 7) from rfl) (by unfold vp_in; decide) ?_
  refine en_58 ?_
  refine s_iinc (v := 1) hJ d_138_67 rfl (by decide) ?_
  refine s_goto (tgt := 48) hJ d_138_70 rfl ?_
  refine s_iload_n hJ d_138_48 rfl ?_
  refine s_iconst_4 hJ d_138_49 ?_
  refine s_icmp_ge (tgt := 73) hJ d_138_50 rfl (fun h => absurd h (by decide)) (fun _ => ?_)
  refine s_aload_n hJ d_138_53 rfl ?_
  refine s_getr hJ lf_9_11 rfl d_138_54 (show zs_58.2.1 25 = some (.inl 9) from rfl) (show zs_58.2.2 25 0 = .ref 26 from rfl) ?_
  refine s_iload_n hJ d_138_57 rfl ?_
  refine s_new hJ ln_9_9 d_138_58 (by decide) (by decide) ?_
  refine en_59 ?_
  refine s_dup hJ d_138_61 rfl ?_
  refine s_aload_n hJ d_138_62 rfl ?_
  refine s_I1 (k := 0) (w := 0) hJ lm_9_35 d_138_63 (Nat.le_of_ble_eq_true rfl) (fun _ _ => ⟨by decide, by decide⟩) ?_
  refine ctor_31 (d := d + 0) ?_
  refine s_aast hJ d_138_66 (show zs_60.2.1 26 = some (.inr (6, 4)) from rfl) tc_6 (show zs_60.2.1 31 = some (.inl 7) from rfl) (by unfold vp_in; decide) ?_
  refine en_61 ?_
  refine s_iinc (v := 1) hJ d_138_67 rfl (by decide) ?_
  refine s_goto (tgt := 48) hJ d_138_70 rfl ?_
  refine s_iload_n hJ d_138_48 rfl ?_
  refine s_iconst_4 hJ d_138_49 ?_
  refine s_icmp_ge (tgt := 73) hJ d_138_50 rfl (fun h => absurd h (by decide)) (fun _ => ?_)
  refine s_aload_n hJ d_138_53 rfl ?_
  refine s_getr hJ lf_9_11 rfl d_138_54 (show zs_61.2.1 25 = some (.inl 9) from rfl) (show zs_61.2.2 25 0 = .ref 26 from rfl) ?_
  refine s_iload_n hJ d_138_57 rfl ?_
  refine s_new hJ ln_9_9 d_138_58 (by decide) (by decide) ?_
  refine en_62 ?_
  refine s_dup hJ d_138_61 rfl ?_
  refine s_aload_n hJ d_138_62 rfl ?_
  refine s_I1 (k := 0) (w := 0) hJ lm_9_35 d_138_63 (Nat.le_of_ble_eq_true rfl) (fun _ _ => ⟨by decide, by decide⟩) ?_
  refine ctor_32 (d := d + 0) ?_
  refine s_aast hJ d_138_66 (show zs_63.2.1 26 = some (.inr (6, 4)) from rfl) tc_6 (show zs_63.2.1 32 = some (.inl 7) from rfl) (by unfold vp_in; decide) ?_
  refine en_64 ?_
  refine s_iinc (v := 1) hJ d_138_67 rfl (by decide) ?_
  refine s_goto (tgt := 48) hJ d_138_70 rfl ?_
  refine s_iload_n hJ d_138_48 rfl ?_
  refine s_iconst_4 hJ d_138_49 ?_
  refine s_icmp_ge (tgt := 73) hJ d_138_50 rfl (fun h => absurd h (by decide)) (fun _ => ?_)
  refine s_aload_n hJ d_138_53 rfl ?_
  refine s_getr hJ lf_9_11 rfl d_138_54 (show zs_64.2.1 25 = some (.inl 9) from rfl) (show zs_64.2.2 25 0 = .ref 26 from rfl) ?_
  refine s_iload_n hJ d_138_57 rfl ?_
  refine s_new hJ ln_9_9 d_138_58 (by decide) (by decide) ?_
  refine en_65 ?_
  refine s_dup hJ d_138_61 rfl ?_
  refine s_aload_n hJ d_138_62 rfl ?_
  refine s_I1 (k := 0) (w := 0) hJ lm_9_35 d_138_63 (Nat.le_of_ble_eq_true rfl) (fun _ _ => ⟨by decide, by decide⟩) ?_
  refine ctor_33 (d := d + 0) ?_
  refine s_aast hJ d_138_66 (show zs_66.2.1 26 = some (.inr (6, 4)) from rfl) tc_6 (show zs_66.2.1 33 = some (.inl 7) from rfl) (by unfold vp_in; decide) ?_
  refine en_67 ?_
  refine s_iinc (v := 1) hJ d_138_67 rfl (by decide) ?_
  refine s_goto (tgt := 48) hJ d_138_70 rfl ?_
  refine s_iload_n hJ d_138_48 rfl ?_
  refine s_iconst_4 hJ d_138_49 ?_
  refine s_icmp_ge (tgt := 73) hJ d_138_50 rfl (fun _ => ?_) (fun h => absurd (by decide) h)
  exact s_vret hJ d_138_73 rfl hQ
set_option maxRecDepth 20000 in
theorem ctor_39 {d : Nat} {Q : aj_Q} (hQ : Q none zs_79 is_89 aj_G0) : aj_T (d + 1) 0 0 115 [.ref 39, .ref 17] zs_78 is_83 aj_G0 Q := by
  refine t_115 fun J hJ => ?_
  refine s_aload_n hJ d_115_0 rfl ?_
  refine s_objinit hJ lo_7_3 d_115_1 (Nat.le_of_ble_eq_true rfl) ?_
  refine s_aload_n hJ d_115_4 rfl ?_
  refine s_iconst_m1 hJ d_115_5 ?_
  refine s_puti hJ lf_7_9 rfl d_115_6 (show zs_78.2.1 39 = some (.inl 7) from rfl) ?_
  refine ei_84 ?_
  refine s_aload_n hJ d_115_9 rfl ?_
  refine s_iconst_0 hJ d_115_10 ?_
  refine s_puti hJ lf_7_15 rfl d_115_11 (show zs_78.2.1 39 = some (.inl 7) from rfl) ?_
  refine ei_85 ?_
  refine s_aload_n hJ d_115_14 rfl ?_
  refine s_iconst_0 hJ d_115_15 ?_
  refine s_puti hJ lf_7_18 rfl d_115_16 (show zs_78.2.1 39 = some (.inl 7) from rfl) ?_
  refine ei_86 ?_
  refine s_aload_n hJ d_115_19 rfl ?_
  refine s_iconst_0 hJ d_115_20 ?_
  refine s_puti hJ lf_7_21 rfl d_115_21 (show zs_78.2.1 39 = some (.inl 7) from rfl) ?_
  refine ei_87 ?_
  refine s_aload_n hJ d_115_24 rfl ?_
  refine s_bipush (v := 8) hJ d_115_25 (by decide) ?_
  refine s_puti hJ lf_7_24 rfl d_115_27 (show zs_78.2.1 39 = some (.inl 7) from rfl) ?_
  refine ei_88 ?_
  refine s_aload_n hJ d_115_30 rfl ?_
  refine s_iconst_4 hJ d_115_31 ?_
  refine s_puti hJ lf_7_27 rfl d_115_32 (show zs_78.2.1 39 = some (.inl 7) from rfl) ?_
  refine ei_89 ?_
  refine s_aload_n hJ d_115_35 rfl ?_
  refine s_aload_n hJ d_115_36 rfl ?_
  refine s_putr hJ lf_7_30 (Or.inr ⟨rfl, rfl⟩) rfl (Or.inr ⟨_, rfl⟩) d_115_37 (show zs_78.2.1 39 = some (.inl 7) from rfl) ?_
  refine en_79 ?_
  exact s_vret hJ d_115_40 rfl hQ
set_option maxRecDepth 20000 in
theorem ctor_40 {d : Nat} {Q : aj_Q} (hQ : Q none zs_82 is_96 aj_G0) : aj_T (d + 1) 0 0 115 [.ref 40, .ref 17] zs_81 is_90 aj_G0 Q := by
  refine t_115 fun J hJ => ?_
  refine s_aload_n hJ d_115_0 rfl ?_
  refine s_objinit hJ lo_7_3 d_115_1 (Nat.le_of_ble_eq_true rfl) ?_
  refine s_aload_n hJ d_115_4 rfl ?_
  refine s_iconst_m1 hJ d_115_5 ?_
  refine s_puti hJ lf_7_9 rfl d_115_6 (show zs_81.2.1 40 = some (.inl 7) from rfl) ?_
  refine ei_91 ?_
  refine s_aload_n hJ d_115_9 rfl ?_
  refine s_iconst_0 hJ d_115_10 ?_
  refine s_puti hJ lf_7_15 rfl d_115_11 (show zs_81.2.1 40 = some (.inl 7) from rfl) ?_
  refine ei_92 ?_
  refine s_aload_n hJ d_115_14 rfl ?_
  refine s_iconst_0 hJ d_115_15 ?_
  refine s_puti hJ lf_7_18 rfl d_115_16 (show zs_81.2.1 40 = some (.inl 7) from rfl) ?_
  refine ei_93 ?_
  refine s_aload_n hJ d_115_19 rfl ?_
  refine s_iconst_0 hJ d_115_20 ?_
  refine s_puti hJ lf_7_21 rfl d_115_21 (show zs_81.2.1 40 = some (.inl 7) from rfl) ?_
  refine ei_94 ?_
  refine s_aload_n hJ d_115_24 rfl ?_
  refine s_bipush (v := 8) hJ d_115_25 (by decide) ?_
  refine s_puti hJ lf_7_24 rfl d_115_27 (show zs_81.2.1 40 = some (.inl 7) from rfl) ?_
  refine ei_95 ?_
  refine s_aload_n hJ d_115_30 rfl ?_
  refine s_iconst_4 hJ d_115_31 ?_
  refine s_puti hJ lf_7_27 rfl d_115_32 (show zs_81.2.1 40 = some (.inl 7) from rfl) ?_
  refine ei_96 ?_
  refine s_aload_n hJ d_115_35 rfl ?_
  refine s_aload_n hJ d_115_36 rfl ?_
  refine s_putr hJ lf_7_30 (Or.inr ⟨rfl, rfl⟩) rfl (Or.inr ⟨_, rfl⟩) d_115_37 (show zs_81.2.1 40 = some (.inl 7) from rfl) ?_
  refine en_82 ?_
  exact s_vret hJ d_115_40 rfl hQ
set_option maxRecDepth 20000 in
theorem ctor_41 {d : Nat} {Q : aj_Q} (hQ : Q none zs_85 is_103 aj_G0) : aj_T (d + 1) 0 0 115 [.ref 41, .ref 17] zs_84 is_97 aj_G0 Q := by
  refine t_115 fun J hJ => ?_
  refine s_aload_n hJ d_115_0 rfl ?_
  refine s_objinit hJ lo_7_3 d_115_1 (Nat.le_of_ble_eq_true rfl) ?_
  refine s_aload_n hJ d_115_4 rfl ?_
  refine s_iconst_m1 hJ d_115_5 ?_
  refine s_puti hJ lf_7_9 rfl d_115_6 (show zs_84.2.1 41 = some (.inl 7) from rfl) ?_
  refine ei_98 ?_
  refine s_aload_n hJ d_115_9 rfl ?_
  refine s_iconst_0 hJ d_115_10 ?_
  refine s_puti hJ lf_7_15 rfl d_115_11 (show zs_84.2.1 41 = some (.inl 7) from rfl) ?_
  refine ei_99 ?_
  refine s_aload_n hJ d_115_14 rfl ?_
  refine s_iconst_0 hJ d_115_15 ?_
  refine s_puti hJ lf_7_18 rfl d_115_16 (show zs_84.2.1 41 = some (.inl 7) from rfl) ?_
  refine ei_100 ?_
  refine s_aload_n hJ d_115_19 rfl ?_
  refine s_iconst_0 hJ d_115_20 ?_
  refine s_puti hJ lf_7_21 rfl d_115_21 (show zs_84.2.1 41 = some (.inl 7) from rfl) ?_
  refine ei_101 ?_
  refine s_aload_n hJ d_115_24 rfl ?_
  refine s_bipush (v := 8) hJ d_115_25 (by decide) ?_
  refine s_puti hJ lf_7_24 rfl d_115_27 (show zs_84.2.1 41 = some (.inl 7) from rfl) ?_
  refine ei_102 ?_
  refine s_aload_n hJ d_115_30 rfl ?_
  refine s_iconst_4 hJ d_115_31 ?_
  refine s_puti hJ lf_7_27 rfl d_115_32 (show zs_84.2.1 41 = some (.inl 7) from rfl) ?_
  refine ei_103 ?_
  refine s_aload_n hJ d_115_35 rfl ?_
  refine s_aload_n hJ d_115_36 rfl ?_
  refine s_putr hJ lf_7_30 (Or.inr ⟨rfl, rfl⟩) rfl (Or.inr ⟨_, rfl⟩) d_115_37 (show zs_84.2.1 41 = some (.inl 7) from rfl) ?_
  refine en_85 ?_
  exact s_vret hJ d_115_40 rfl hQ
set_option maxRecDepth 20000 in
theorem ctor_42 {d : Nat} {Q : aj_Q} (hQ : Q none zs_88 is_110 aj_G0) : aj_T (d + 1) 0 0 115 [.ref 42, .ref 17] zs_87 is_104 aj_G0 Q := by
  refine t_115 fun J hJ => ?_
  refine s_aload_n hJ d_115_0 rfl ?_
  refine s_objinit hJ lo_7_3 d_115_1 (Nat.le_of_ble_eq_true rfl) ?_
  refine s_aload_n hJ d_115_4 rfl ?_
  refine s_iconst_m1 hJ d_115_5 ?_
  refine s_puti hJ lf_7_9 rfl d_115_6 (show zs_87.2.1 42 = some (.inl 7) from rfl) ?_
  refine ei_105 ?_
  refine s_aload_n hJ d_115_9 rfl ?_
  refine s_iconst_0 hJ d_115_10 ?_
  refine s_puti hJ lf_7_15 rfl d_115_11 (show zs_87.2.1 42 = some (.inl 7) from rfl) ?_
  refine ei_106 ?_
  refine s_aload_n hJ d_115_14 rfl ?_
  refine s_iconst_0 hJ d_115_15 ?_
  refine s_puti hJ lf_7_18 rfl d_115_16 (show zs_87.2.1 42 = some (.inl 7) from rfl) ?_
  refine ei_107 ?_
  refine s_aload_n hJ d_115_19 rfl ?_
  refine s_iconst_0 hJ d_115_20 ?_
  refine s_puti hJ lf_7_21 rfl d_115_21 (show zs_87.2.1 42 = some (.inl 7) from rfl) ?_
  refine ei_108 ?_
  refine s_aload_n hJ d_115_24 rfl ?_
  refine s_bipush (v := 8) hJ d_115_25 (by decide) ?_
  refine s_puti hJ lf_7_24 rfl d_115_27 (show zs_87.2.1 42 = some (.inl 7) from rfl) ?_
  refine ei_109 ?_
  refine s_aload_n hJ d_115_30 rfl ?_
  refine s_iconst_4 hJ d_115_31 ?_
  refine s_puti hJ lf_7_27 rfl d_115_32 (show zs_87.2.1 42 = some (.inl 7) from rfl) ?_
  refine ei_110 ?_
  refine s_aload_n hJ d_115_35 rfl ?_
  refine s_aload_n hJ d_115_36 rfl ?_
  refine s_putr hJ lf_7_30 (Or.inr ⟨rfl, rfl⟩) rfl (Or.inr ⟨_, rfl⟩) d_115_37 (show zs_87.2.1 42 = some (.inl 7) from rfl) ?_
  refine en_88 ?_
  exact s_vret hJ d_115_40 rfl hQ
set_option maxRecDepth 20000 in
theorem ctor_34 {d : Nat} {Q : aj_Q} (hQ : Q none zs_89 is_110 aj_G0) : aj_T (d + 2) 8 80 138 [.ref 34, .ref 17] zs_69 is_76 aj_G0 Q := by
  refine t_138 fun J hJ => ?_
  refine s_aload_n hJ d_138_0 rfl ?_
  refine s_objinit hJ lo_9_3 d_138_1 (Nat.le_of_ble_eq_true rfl) ?_
  refine s_aload_n hJ d_138_4 rfl ?_
  refine s_iconst_4 hJ d_138_5 ?_
  refine s_newr (n := 4) hJ la_9_9 d_138_6 (by rfl) (by decide) (by decide) (by decide) ?_
  refine en_70 ?_
  refine s_putr hJ lf_9_11 (Or.inr ⟨rfl, rfl⟩) rfl (Or.inr ⟨_, rfl⟩) d_138_9 (show zs_70.2.1 34 = some (.inl 9) from rfl) ?_
  refine en_71 ?_
  refine s_aload_n hJ d_138_12 rfl ?_
  refine s_bipush (v := 16) hJ d_138_13 (by decide) ?_
  refine s_newa (n := 16) hJ pa_0 d_138_15 (by rfl) (by decide) (by decide) (by decide) ?_
  refine en_72 ?_
  refine s_putr hJ lf_9_17 (Or.inr ⟨rfl, rfl⟩) rfl (Or.inr ⟨_, rfl⟩) d_138_17 (show zs_72.2.1 34 = some (.inl 9) from rfl) ?_
  refine en_73 ?_
  refine s_aload_n hJ d_138_20 rfl ?_
  refine s_bipush (v := 16) hJ d_138_21 (by decide) ?_
  refine s_newa (n := 16) hJ pa_0 d_138_23 (by rfl) (by decide) (by decide) (by decide) ?_
  refine en_74 ?_
  refine s_putr hJ lf_9_21 (Or.inr ⟨rfl, rfl⟩) rfl (Or.inr ⟨_, rfl⟩) d_138_25 (show zs_74.2.1 34 = some (.inl 9) from rfl) ?_
  refine en_75 ?_
  refine s_aload_n hJ d_138_28 rfl ?_
  refine s_bipush (v := 16) hJ d_138_29 (by decide) ?_
  refine s_newa (n := 16) hJ pa_1 d_138_31 (by rfl) (by decide) (by decide) (by decide) ?_
  refine en_76 ?_
  refine s_putr hJ lf_9_24 (Or.inr ⟨rfl, rfl⟩) rfl (Or.inr ⟨_, rfl⟩) d_138_33 (show zs_76.2.1 34 = some (.inl 9) from rfl) ?_
  refine en_77 ?_
  refine s_aload_n hJ d_138_36 rfl ?_
  refine s_iconst_0 hJ d_138_37 ?_
  refine s_puti hJ lf_9_28 rfl d_138_38 (show zs_77.2.1 34 = some (.inl 9) from rfl) ?_
  refine ei_81 ?_
  refine s_aload_n hJ d_138_41 rfl ?_
  refine s_iconst_m1 hJ d_138_42 ?_
  refine s_puti hJ lf_9_32 rfl d_138_43 (show zs_77.2.1 34 = some (.inl 9) from rfl) ?_
  refine ei_82 ?_
  refine s_iconst_0 hJ d_138_46 ?_
  refine s_istore_n hJ d_138_47 (Nat.le_of_ble_eq_true rfl) ?_
  refine s_iload_n hJ d_138_48 rfl ?_
  refine s_iconst_4 hJ d_138_49 ?_
  refine s_icmp_ge (tgt := 73) hJ d_138_50 rfl (fun h => absurd h (by decide)) (fun _ => ?_)
  refine s_aload_n hJ d_138_53 rfl ?_
  refine s_getr hJ lf_9_11 rfl d_138_54 (show zs_77.2.1 34 = some (.inl 9) from rfl) (show zs_77.2.2 34 0 = .ref 35 from rfl) ?_
  refine s_iload_n hJ d_138_57 rfl ?_
  refine s_new hJ ln_9_9 d_138_58 (by decide) (by decide) ?_
  refine en_78 ?_
  refine s_dup hJ d_138_61 rfl ?_
  refine s_aload_n hJ d_138_62 rfl ?_
  refine s_I1 (k := 0) (w := 0) hJ lm_9_35 d_138_63 (Nat.le_of_ble_eq_true rfl) (fun _ _ => ⟨by decide, by decide⟩) ?_
  refine ctor_39 (d := d + 0) ?_
  refine s_aast hJ d_138_66 (show zs_79.2.1 35 = some (.inr (6, 4)) from rfl) tc_6 (show zs_79.2.1 39 = some (.inl 7) from rfl) (by unfold vp_in; decide) ?_
  refine en_80 ?_
  refine s_iinc (v := 1) hJ d_138_67 rfl (by decide) ?_
  refine s_goto (tgt := 48) hJ d_138_70 rfl ?_
  refine s_iload_n hJ d_138_48 rfl ?_
  refine s_iconst_4 hJ d_138_49 ?_
  refine s_icmp_ge (tgt := 73) hJ d_138_50 rfl (fun h => absurd h (by decide)) (fun _ => ?_)
  refine s_aload_n hJ d_138_53 rfl ?_
  refine s_getr hJ lf_9_11 rfl d_138_54 (show zs_80.2.1 34 = some (.inl 9) from rfl) (show zs_80.2.2 34 0 = .ref 35 from rfl) ?_
  refine s_iload_n hJ d_138_57 rfl ?_
  refine s_new hJ ln_9_9 d_138_58 (by decide) (by decide) ?_
  refine en_81 ?_
  refine s_dup hJ d_138_61 rfl ?_
  refine s_aload_n hJ d_138_62 rfl ?_
  refine s_I1 (k := 0) (w := 0) hJ lm_9_35 d_138_63 (Nat.le_of_ble_eq_true rfl) (fun _ _ => ⟨by decide, by decide⟩) ?_
  refine ctor_40 (d := d + 0) ?_
  refine s_aast hJ d_138_66 (show zs_82.2.1 35 = some (.inr (6, 4)) from rfl) tc_6 (show zs_82.2.1 40 = some (.inl 7) from rfl) (by unfold vp_in; decide) ?_
  refine en_83 ?_
  refine s_iinc (v := 1) hJ d_138_67 rfl (by decide) ?_
  refine s_goto (tgt := 48) hJ d_138_70 rfl ?_
  refine s_iload_n hJ d_138_48 rfl ?_
  refine s_iconst_4 hJ d_138_49 ?_
  refine s_icmp_ge (tgt := 73) hJ d_138_50 rfl (fun h => absurd h (by decide)) (fun _ => ?_)
  refine s_aload_n hJ d_138_53 rfl ?_
  refine s_getr hJ lf_9_11 rfl d_138_54 (show zs_83.2.1 34 = some (.inl 9) from rfl) (show zs_83.2.2 34 0 = .ref 35 from rfl) ?_
  refine s_iload_n hJ d_138_57 rfl ?_
  refine s_new hJ ln_9_9 d_138_58 (by decide) (by decide) ?_
  refine en_84 ?_
  refine s_dup hJ d_138_61 rfl ?_
  refine s_aload_n hJ d_138_62 rfl ?_
  refine s_I1 (k := 0) (w := 0) hJ lm_9_35 d_138_63 (Nat.le_of_ble_eq_true rfl) (fun _ _ => ⟨by decide, by decide⟩) ?_
  refine ctor_41 (d := d + 0) ?_
  refine s_aast hJ d_138_66 (show zs_85.2.1 35 = some (.inr (6, 4)) from rfl) tc_6 (show zs_85.2.1 41 = some (.inl 7) from rfl) (by unfold vp_in; decide) ?_
  refine en_86 ?_
  refine s_iinc (v := 1) hJ d_138_67 rfl (by decide) ?_
  refine s_goto (tgt := 48) hJ d_138_70 rfl ?_
  refine s_iload_n hJ d_138_48 rfl ?_
  refine s_iconst_4 hJ d_138_49 ?_
  refine s_icmp_ge (tgt := 73) hJ d_138_50 rfl (fun h => absurd h (by decide)) (fun _ => ?_)
  refine s_aload_n hJ d_138_53 rfl ?_
  refine s_getr hJ lf_9_11 rfl d_138_54 (show zs_86.2.1 34 = some (.inl 9) from rfl) (show zs_86.2.2 34 0 = .ref 35 from rfl) ?_
  refine s_iload_n hJ d_138_57 rfl ?_
  refine s_new hJ ln_9_9 d_138_58 (by decide) (by decide) ?_
  refine en_87 ?_
  refine s_dup hJ d_138_61 rfl ?_
  refine s_aload_n hJ d_138_62 rfl ?_
  refine s_I1 (k := 0) (w := 0) hJ lm_9_35 d_138_63 (Nat.le_of_ble_eq_true rfl) (fun _ _ => ⟨by decide, by decide⟩) ?_
  refine ctor_42 (d := d + 0) ?_
  refine s_aast hJ d_138_66 (show zs_88.2.1 35 = some (.inr (6, 4)) from rfl) tc_6 (show zs_88.2.1 42 = some (.inl 7) from rfl) (by unfold vp_in; decide) ?_
  refine en_89 ?_
  refine s_iinc (v := 1) hJ d_138_67 rfl (by decide) ?_
  refine s_goto (tgt := 48) hJ d_138_70 rfl ?_
  refine s_iload_n hJ d_138_48 rfl ?_
  refine s_iconst_4 hJ d_138_49 ?_
  refine s_icmp_ge (tgt := 73) hJ d_138_50 rfl (fun _ => ?_) (fun h => absurd (by decide) h)
  exact s_vret hJ d_138_73 rfl hQ
set_option maxRecDepth 20000 in
theorem ctor_48 {d : Nat} {Q : aj_Q} (hQ : Q none zs_101 is_124 aj_G0) : aj_T (d + 1) 0 0 115 [.ref 48, .ref 17] zs_100 is_118 aj_G0 Q := by
  refine t_115 fun J hJ => ?_
  refine s_aload_n hJ d_115_0 rfl ?_
  refine s_objinit hJ lo_7_3 d_115_1 (Nat.le_of_ble_eq_true rfl) ?_
  refine s_aload_n hJ d_115_4 rfl ?_
  refine s_iconst_m1 hJ d_115_5 ?_
  refine s_puti hJ lf_7_9 rfl d_115_6 (show zs_100.2.1 48 = some (.inl 7) from rfl) ?_
  refine ei_119 ?_
  refine s_aload_n hJ d_115_9 rfl ?_
  refine s_iconst_0 hJ d_115_10 ?_
  refine s_puti hJ lf_7_15 rfl d_115_11 (show zs_100.2.1 48 = some (.inl 7) from rfl) ?_
  refine ei_120 ?_
  refine s_aload_n hJ d_115_14 rfl ?_
  refine s_iconst_0 hJ d_115_15 ?_
  refine s_puti hJ lf_7_18 rfl d_115_16 (show zs_100.2.1 48 = some (.inl 7) from rfl) ?_
  refine ei_121 ?_
  refine s_aload_n hJ d_115_19 rfl ?_
  refine s_iconst_0 hJ d_115_20 ?_
  refine s_puti hJ lf_7_21 rfl d_115_21 (show zs_100.2.1 48 = some (.inl 7) from rfl) ?_
  refine ei_122 ?_
  refine s_aload_n hJ d_115_24 rfl ?_
  refine s_bipush (v := 8) hJ d_115_25 (by decide) ?_
  refine s_puti hJ lf_7_24 rfl d_115_27 (show zs_100.2.1 48 = some (.inl 7) from rfl) ?_
  refine ei_123 ?_
  refine s_aload_n hJ d_115_30 rfl ?_
  refine s_iconst_4 hJ d_115_31 ?_
  refine s_puti hJ lf_7_27 rfl d_115_32 (show zs_100.2.1 48 = some (.inl 7) from rfl) ?_
  refine ei_124 ?_
  refine s_aload_n hJ d_115_35 rfl ?_
  refine s_aload_n hJ d_115_36 rfl ?_
  refine s_putr hJ lf_7_30 (Or.inr ⟨rfl, rfl⟩) rfl (Or.inr ⟨_, rfl⟩) d_115_37 (show zs_100.2.1 48 = some (.inl 7) from rfl) ?_
  refine en_101 ?_
  exact s_vret hJ d_115_40 rfl hQ
set_option maxRecDepth 20000 in
theorem ctor_49 {d : Nat} {Q : aj_Q} (hQ : Q none zs_104 is_131 aj_G0) : aj_T (d + 1) 0 0 115 [.ref 49, .ref 17] zs_103 is_125 aj_G0 Q := by
  refine t_115 fun J hJ => ?_
  refine s_aload_n hJ d_115_0 rfl ?_
  refine s_objinit hJ lo_7_3 d_115_1 (Nat.le_of_ble_eq_true rfl) ?_
  refine s_aload_n hJ d_115_4 rfl ?_
  refine s_iconst_m1 hJ d_115_5 ?_
  refine s_puti hJ lf_7_9 rfl d_115_6 (show zs_103.2.1 49 = some (.inl 7) from rfl) ?_
  refine ei_126 ?_
  refine s_aload_n hJ d_115_9 rfl ?_
  refine s_iconst_0 hJ d_115_10 ?_
  refine s_puti hJ lf_7_15 rfl d_115_11 (show zs_103.2.1 49 = some (.inl 7) from rfl) ?_
  refine ei_127 ?_
  refine s_aload_n hJ d_115_14 rfl ?_
  refine s_iconst_0 hJ d_115_15 ?_
  refine s_puti hJ lf_7_18 rfl d_115_16 (show zs_103.2.1 49 = some (.inl 7) from rfl) ?_
  refine ei_128 ?_
  refine s_aload_n hJ d_115_19 rfl ?_
  refine s_iconst_0 hJ d_115_20 ?_
  refine s_puti hJ lf_7_21 rfl d_115_21 (show zs_103.2.1 49 = some (.inl 7) from rfl) ?_
  refine ei_129 ?_
  refine s_aload_n hJ d_115_24 rfl ?_
  refine s_bipush (v := 8) hJ d_115_25 (by decide) ?_
  refine s_puti hJ lf_7_24 rfl d_115_27 (show zs_103.2.1 49 = some (.inl 7) from rfl) ?_
  refine ei_130 ?_
  refine s_aload_n hJ d_115_30 rfl ?_
  refine s_iconst_4 hJ d_115_31 ?_
  refine s_puti hJ lf_7_27 rfl d_115_32 (show zs_103.2.1 49 = some (.inl 7) from rfl) ?_
  refine ei_131 ?_
  refine s_aload_n hJ d_115_35 rfl ?_
  refine s_aload_n hJ d_115_36 rfl ?_
  refine s_putr hJ lf_7_30 (Or.inr ⟨rfl, rfl⟩) rfl (Or.inr ⟨_, rfl⟩) d_115_37 (show zs_103.2.1 49 = some (.inl 7) from rfl) ?_
  refine en_104 ?_
  exact s_vret hJ d_115_40 rfl hQ
set_option maxRecDepth 20000 in
theorem ctor_50 {d : Nat} {Q : aj_Q} (hQ : Q none zs_107 is_138 aj_G0) : aj_T (d + 1) 0 0 115 [.ref 50, .ref 17] zs_106 is_132 aj_G0 Q := by
  refine t_115 fun J hJ => ?_
  refine s_aload_n hJ d_115_0 rfl ?_
  refine s_objinit hJ lo_7_3 d_115_1 (Nat.le_of_ble_eq_true rfl) ?_
  refine s_aload_n hJ d_115_4 rfl ?_
  refine s_iconst_m1 hJ d_115_5 ?_
  refine s_puti hJ lf_7_9 rfl d_115_6 (show zs_106.2.1 50 = some (.inl 7) from rfl) ?_
  refine ei_133 ?_
  refine s_aload_n hJ d_115_9 rfl ?_
  refine s_iconst_0 hJ d_115_10 ?_
  refine s_puti hJ lf_7_15 rfl d_115_11 (show zs_106.2.1 50 = some (.inl 7) from rfl) ?_
  refine ei_134 ?_
  refine s_aload_n hJ d_115_14 rfl ?_
  refine s_iconst_0 hJ d_115_15 ?_
  refine s_puti hJ lf_7_18 rfl d_115_16 (show zs_106.2.1 50 = some (.inl 7) from rfl) ?_
  refine ei_135 ?_
  refine s_aload_n hJ d_115_19 rfl ?_
  refine s_iconst_0 hJ d_115_20 ?_
  refine s_puti hJ lf_7_21 rfl d_115_21 (show zs_106.2.1 50 = some (.inl 7) from rfl) ?_
  refine ei_136 ?_
  refine s_aload_n hJ d_115_24 rfl ?_
  refine s_bipush (v := 8) hJ d_115_25 (by decide) ?_
  refine s_puti hJ lf_7_24 rfl d_115_27 (show zs_106.2.1 50 = some (.inl 7) from rfl) ?_
  refine ei_137 ?_
  refine s_aload_n hJ d_115_30 rfl ?_
  refine s_iconst_4 hJ d_115_31 ?_
  refine s_puti hJ lf_7_27 rfl d_115_32 (show zs_106.2.1 50 = some (.inl 7) from rfl) ?_
  refine ei_138 ?_
  refine s_aload_n hJ d_115_35 rfl ?_
  refine s_aload_n hJ d_115_36 rfl ?_
  refine s_putr hJ lf_7_30 (Or.inr ⟨rfl, rfl⟩) rfl (Or.inr ⟨_, rfl⟩) d_115_37 (show zs_106.2.1 50 = some (.inl 7) from rfl) ?_
  refine en_107 ?_
  exact s_vret hJ d_115_40 rfl hQ
set_option maxRecDepth 20000 in
theorem ctor_51 {d : Nat} {Q : aj_Q} (hQ : Q none zs_110 is_145 aj_G0) : aj_T (d + 1) 0 0 115 [.ref 51, .ref 17] zs_109 is_139 aj_G0 Q := by
  refine t_115 fun J hJ => ?_
  refine s_aload_n hJ d_115_0 rfl ?_
  refine s_objinit hJ lo_7_3 d_115_1 (Nat.le_of_ble_eq_true rfl) ?_
  refine s_aload_n hJ d_115_4 rfl ?_
  refine s_iconst_m1 hJ d_115_5 ?_
  refine s_puti hJ lf_7_9 rfl d_115_6 (show zs_109.2.1 51 = some (.inl 7) from rfl) ?_
  refine ei_140 ?_
  refine s_aload_n hJ d_115_9 rfl ?_
  refine s_iconst_0 hJ d_115_10 ?_
  refine s_puti hJ lf_7_15 rfl d_115_11 (show zs_109.2.1 51 = some (.inl 7) from rfl) ?_
  refine ei_141 ?_
  refine s_aload_n hJ d_115_14 rfl ?_
  refine s_iconst_0 hJ d_115_15 ?_
  refine s_puti hJ lf_7_18 rfl d_115_16 (show zs_109.2.1 51 = some (.inl 7) from rfl) ?_
  refine ei_142 ?_
  refine s_aload_n hJ d_115_19 rfl ?_
  refine s_iconst_0 hJ d_115_20 ?_
  refine s_puti hJ lf_7_21 rfl d_115_21 (show zs_109.2.1 51 = some (.inl 7) from rfl) ?_
  refine ei_143 ?_
  refine s_aload_n hJ d_115_24 rfl ?_
  refine s_bipush (v := 8) hJ d_115_25 (by decide) ?_
  refine s_puti hJ lf_7_24 rfl d_115_27 (show zs_109.2.1 51 = some (.inl 7) from rfl) ?_
  refine ei_144 ?_
  refine s_aload_n hJ d_115_30 rfl ?_
  refine s_iconst_4 hJ d_115_31 ?_
  refine s_puti hJ lf_7_27 rfl d_115_32 (show zs_109.2.1 51 = some (.inl 7) from rfl) ?_
  refine ei_145 ?_
  refine s_aload_n hJ d_115_35 rfl ?_
  refine s_aload_n hJ d_115_36 rfl ?_
  refine s_putr hJ lf_7_30 (Or.inr ⟨rfl, rfl⟩) rfl (Or.inr ⟨_, rfl⟩) d_115_37 (show zs_109.2.1 51 = some (.inl 7) from rfl) ?_
  refine en_110 ?_
  exact s_vret hJ d_115_40 rfl hQ
set_option maxRecDepth 20000 in
theorem ctor_43 {d : Nat} {Q : aj_Q} (hQ : Q none zs_111 is_145 aj_G0) : aj_T (d + 2) 8 80 138 [.ref 43, .ref 17] zs_91 is_111 aj_G0 Q := by
  refine t_138 fun J hJ => ?_
  refine s_aload_n hJ d_138_0 rfl ?_
  refine s_objinit hJ lo_9_3 d_138_1 (Nat.le_of_ble_eq_true rfl) ?_
  refine s_aload_n hJ d_138_4 rfl ?_
  refine s_iconst_4 hJ d_138_5 ?_
  refine s_newr (n := 4) hJ la_9_9 d_138_6 (by rfl) (by decide) (by decide) (by decide) ?_
  refine en_92 ?_
  refine s_putr hJ lf_9_11 (Or.inr ⟨rfl, rfl⟩) rfl (Or.inr ⟨_, rfl⟩) d_138_9 (show zs_92.2.1 43 = some (.inl 9) from rfl) ?_
  refine en_93 ?_
  refine s_aload_n hJ d_138_12 rfl ?_
  refine s_bipush (v := 16) hJ d_138_13 (by decide) ?_
  refine s_newa (n := 16) hJ pa_0 d_138_15 (by rfl) (by decide) (by decide) (by decide) ?_
  refine en_94 ?_
  refine s_putr hJ lf_9_17 (Or.inr ⟨rfl, rfl⟩) rfl (Or.inr ⟨_, rfl⟩) d_138_17 (show zs_94.2.1 43 = some (.inl 9) from rfl) ?_
  refine en_95 ?_
  refine s_aload_n hJ d_138_20 rfl ?_
  refine s_bipush (v := 16) hJ d_138_21 (by decide) ?_
  refine s_newa (n := 16) hJ pa_0 d_138_23 (by rfl) (by decide) (by decide) (by decide) ?_
  refine en_96 ?_
  refine s_putr hJ lf_9_21 (Or.inr ⟨rfl, rfl⟩) rfl (Or.inr ⟨_, rfl⟩) d_138_25 (show zs_96.2.1 43 = some (.inl 9) from rfl) ?_
  refine en_97 ?_
  refine s_aload_n hJ d_138_28 rfl ?_
  refine s_bipush (v := 16) hJ d_138_29 (by decide) ?_
  refine s_newa (n := 16) hJ pa_1 d_138_31 (by rfl) (by decide) (by decide) (by decide) ?_
  refine en_98 ?_
  refine s_putr hJ lf_9_24 (Or.inr ⟨rfl, rfl⟩) rfl (Or.inr ⟨_, rfl⟩) d_138_33 (show zs_98.2.1 43 = some (.inl 9) from rfl) ?_
  refine en_99 ?_
  refine s_aload_n hJ d_138_36 rfl ?_
  refine s_iconst_0 hJ d_138_37 ?_
  refine s_puti hJ lf_9_28 rfl d_138_38 (show zs_99.2.1 43 = some (.inl 9) from rfl) ?_
  refine ei_116 ?_
  refine s_aload_n hJ d_138_41 rfl ?_
  refine s_iconst_m1 hJ d_138_42 ?_
  refine s_puti hJ lf_9_32 rfl d_138_43 (show zs_99.2.1 43 = some (.inl 9) from rfl) ?_
  refine ei_117 ?_
  refine s_iconst_0 hJ d_138_46 ?_
  refine s_istore_n hJ d_138_47 (Nat.le_of_ble_eq_true rfl) ?_
  refine s_iload_n hJ d_138_48 rfl ?_
  refine s_iconst_4 hJ d_138_49 ?_
  refine s_icmp_ge (tgt := 73) hJ d_138_50 rfl (fun h => absurd h (by decide)) (fun _ => ?_)
  refine s_aload_n hJ d_138_53 rfl ?_
  refine s_getr hJ lf_9_11 rfl d_138_54 (show zs_99.2.1 43 = some (.inl 9) from rfl) (show zs_99.2.2 43 0 = .ref 44 from rfl) ?_
  refine s_iload_n hJ d_138_57 rfl ?_
  refine s_new hJ ln_9_9 d_138_58 (by decide) (by decide) ?_
  refine en_100 ?_
  refine s_dup hJ d_138_61 rfl ?_
  refine s_aload_n hJ d_138_62 rfl ?_
  refine s_I1 (k := 0) (w := 0) hJ lm_9_35 d_138_63 (Nat.le_of_ble_eq_true rfl) (fun _ _ => ⟨by decide, by decide⟩) ?_
  refine ctor_48 (d := d + 0) ?_
  refine s_aast hJ d_138_66 (show zs_101.2.1 44 = some (.inr (6, 4)) from rfl) tc_6 (show zs_101.2.1 48 = some (.inl 7) from rfl) (by unfold vp_in; decide) ?_
  refine en_102 ?_
  refine s_iinc (v := 1) hJ d_138_67 rfl (by decide) ?_
  refine s_goto (tgt := 48) hJ d_138_70 rfl ?_
  refine s_iload_n hJ d_138_48 rfl ?_
  refine s_iconst_4 hJ d_138_49 ?_
  refine s_icmp_ge (tgt := 73) hJ d_138_50 rfl (fun h => absurd h (by decide)) (fun _ => ?_)
  refine s_aload_n hJ d_138_53 rfl ?_
  refine s_getr hJ lf_9_11 rfl d_138_54 (show zs_102.2.1 43 = some (.inl 9) from rfl) (show zs_102.2.2 43 0 = .ref 44 from rfl) ?_
  refine s_iload_n hJ d_138_57 rfl ?_
  refine s_new hJ ln_9_9 d_138_58 (by decide) (by decide) ?_
  refine en_103 ?_
  refine s_dup hJ d_138_61 rfl ?_
  refine s_aload_n hJ d_138_62 rfl ?_
  refine s_I1 (k := 0) (w := 0) hJ lm_9_35 d_138_63 (Nat.le_of_ble_eq_true rfl) (fun _ _ => ⟨by decide, by decide⟩) ?_
  refine ctor_49 (d := d + 0) ?_
  refine s_aast hJ d_138_66 (show zs_104.2.1 44 = some (.inr (6, 4)) from rfl) tc_6 (show zs_104.2.1 49 = some (.inl 7) from rfl) (by unfold vp_in; decide) ?_
  refine en_105 ?_
  refine s_iinc (v := 1) hJ d_138_67 rfl (by decide) ?_
  refine s_goto (tgt := 48) hJ d_138_70 rfl ?_
  refine s_iload_n hJ d_138_48 rfl ?_
  refine s_iconst_4 hJ d_138_49 ?_
  refine s_icmp_ge (tgt := 73) hJ d_138_50 rfl (fun h => absurd h (by decide)) (fun _ => ?_)
  refine s_aload_n hJ d_138_53 rfl ?_
  refine s_getr hJ lf_9_11 rfl d_138_54 (show zs_105.2.1 43 = some (.inl 9) from rfl) (show zs_105.2.2 43 0 = .ref 44 from rfl) ?_
  refine s_iload_n hJ d_138_57 rfl ?_
  refine s_new hJ ln_9_9 d_138_58 (by decide) (by decide) ?_
  refine en_106 ?_
  refine s_dup hJ d_138_61 rfl ?_
  refine s_aload_n hJ d_138_62 rfl ?_
  refine s_I1 (k := 0) (w := 0) hJ lm_9_35 d_138_63 (Nat.le_of_ble_eq_true rfl) (fun _ _ => ⟨by decide, by decide⟩) ?_
  refine ctor_50 (d := d + 0) ?_
  refine s_aast hJ d_138_66 (show zs_107.2.1 44 = some (.inr (6, 4)) from rfl) tc_6 (show zs_107.2.1 50 = some (.inl 7) from rfl) (by unfold vp_in; decide) ?_
  refine en_108 ?_
  refine s_iinc (v := 1) hJ d_138_67 rfl (by decide) ?_
  refine s_goto (tgt := 48) hJ d_138_70 rfl ?_
  refine s_iload_n hJ d_138_48 rfl ?_
  refine s_iconst_4 hJ d_138_49 ?_
  refine s_icmp_ge (tgt := 73) hJ d_138_50 rfl (fun h => absurd h (by decide)) (fun _ => ?_)
  refine s_aload_n hJ d_138_53 rfl ?_
  refine s_getr hJ lf_9_11 rfl d_138_54 (show zs_108.2.1 43 = some (.inl 9) from rfl) (show zs_108.2.2 43 0 = .ref 44 from rfl) ?_
  refine s_iload_n hJ d_138_57 rfl ?_
  refine s_new hJ ln_9_9 d_138_58 (by decide) (by decide) ?_
  refine en_109 ?_
  refine s_dup hJ d_138_61 rfl ?_
  refine s_aload_n hJ d_138_62 rfl ?_
  refine s_I1 (k := 0) (w := 0) hJ lm_9_35 d_138_63 (Nat.le_of_ble_eq_true rfl) (fun _ _ => ⟨by decide, by decide⟩) ?_
  refine ctor_51 (d := d + 0) ?_
  refine s_aast hJ d_138_66 (show zs_110.2.1 44 = some (.inr (6, 4)) from rfl) tc_6 (show zs_110.2.1 51 = some (.inl 7) from rfl) (by unfold vp_in; decide) ?_
  refine en_111 ?_
  refine s_iinc (v := 1) hJ d_138_67 rfl (by decide) ?_
  refine s_goto (tgt := 48) hJ d_138_70 rfl ?_
  refine s_iload_n hJ d_138_48 rfl ?_
  refine s_iconst_4 hJ d_138_49 ?_
  refine s_icmp_ge (tgt := 73) hJ d_138_50 rfl (fun _ => ?_) (fun h => absurd (by decide) h)
  exact s_vret hJ d_138_73 rfl hQ
set_option maxRecDepth 20000 in
theorem ctor_21 {d : Nat} {Q : aj_Q} (hQ : Q none zs_113 is_145 aj_G0) : aj_T (d + 3) 30 269 91 [.ref 21, .ref 17, .ref 20] zs_38 is_27 aj_G0 Q := by
  refine t_91 fun J hJ => ?_
  refine s_aload_n hJ d_91_0 rfl ?_
  refine s_objinit hJ lo_4_3 d_91_1 (Nat.le_of_ble_eq_true rfl) ?_
  refine s_aload_n hJ d_91_4 rfl ?_
  refine s_iconst_3 hJ d_91_5 ?_
  refine s_newr (n := 3) hJ la_4_9 d_91_6 (by rfl) (by decide) (by decide) (by decide) ?_
  refine en_39 ?_
  refine s_putr hJ lf_4_11 (Or.inr ⟨rfl, rfl⟩) rfl (Or.inr ⟨_, rfl⟩) d_91_9 (show zs_39.2.1 21 = some (.inl 4) from rfl) ?_
  refine en_40 ?_
  refine s_aload_n hJ d_91_12 rfl ?_
  refine s_iconst_4 hJ d_91_13 ?_
  refine s_newa (n := 4) hJ pa_0 d_91_14 (by rfl) (by decide) (by decide) (by decide) ?_
  refine en_41 ?_
  refine s_putr hJ lf_4_17 (Or.inr ⟨rfl, rfl⟩) rfl (Or.inr ⟨_, rfl⟩) d_91_16 (show zs_41.2.1 21 = some (.inl 4) from rfl) ?_
  refine en_42 ?_
  refine s_aload_n hJ d_91_19 rfl ?_
  refine s_iconst_4 hJ d_91_20 ?_
  refine s_newa (n := 4) hJ pa_0 d_91_21 (by rfl) (by decide) (by decide) (by decide) ?_
  refine en_43 ?_
  refine s_putr hJ lf_4_21 (Or.inr ⟨rfl, rfl⟩) rfl (Or.inr ⟨_, rfl⟩) d_91_23 (show zs_43.2.1 21 = some (.inl 4) from rfl) ?_
  refine en_44 ?_
  refine s_aload_n hJ d_91_26 rfl ?_
  refine s_iconst_0 hJ d_91_27 ?_
  refine s_puti hJ lf_4_24 rfl d_91_28 (show zs_44.2.1 21 = some (.inl 4) from rfl) ?_
  refine ei_31 ?_
  refine s_aload_n hJ d_91_31 rfl ?_
  refine s_iconst_0 hJ d_91_32 ?_
  refine s_putz hJ lf_4_28 rfl (by decide) d_91_33 (show zs_44.2.1 21 = some (.inl 4) from rfl) ?_
  refine ei_32 ?_
  refine s_aload_n hJ d_91_36 rfl ?_
  refine s_iconst_0 hJ d_91_37 ?_
  refine s_putz hJ lf_4_32 rfl (by decide) d_91_38 (show zs_44.2.1 21 = some (.inl 4) from rfl) ?_
  refine ei_33 ?_
  refine s_aload_n hJ d_91_41 rfl ?_
  refine s_iconst_0 hJ d_91_42 ?_
  refine s_puti hJ lf_4_35 rfl d_91_43 (show zs_44.2.1 21 = some (.inl 4) from rfl) ?_
  refine ei_34 ?_
  refine s_aload_n hJ d_91_46 rfl ?_
  refine s_iconst_0 hJ d_91_47 ?_
  refine s_puti hJ lf_4_38 rfl d_91_48 (show zs_44.2.1 21 = some (.inl 4) from rfl) ?_
  refine ei_35 ?_
  refine s_aload_n hJ d_91_51 rfl ?_
  refine s_iconst_0 hJ d_91_52 ?_
  refine s_puti hJ lf_4_41 rfl d_91_53 (show zs_44.2.1 21 = some (.inl 4) from rfl) ?_
  refine ei_36 ?_
  refine s_aload_n hJ d_91_56 rfl ?_
  refine s_iconst_0 hJ d_91_57 ?_
  refine s_puti hJ lf_4_44 rfl d_91_58 (show zs_44.2.1 21 = some (.inl 4) from rfl) ?_
  refine ei_37 ?_
  refine s_aload_n hJ d_91_61 rfl ?_
  refine s_iconst_0 hJ d_91_62 ?_
  refine s_puti hJ lf_4_47 rfl d_91_63 (show zs_44.2.1 21 = some (.inl 4) from rfl) ?_
  refine ei_38 ?_
  refine s_aload_n hJ d_91_66 rfl ?_
  refine s_iconst_0 hJ d_91_67 ?_
  refine s_puti hJ lf_4_50 rfl d_91_68 (show zs_44.2.1 21 = some (.inl 4) from rfl) ?_
  refine ei_39 ?_
  refine s_aload_n hJ d_91_71 rfl ?_
  refine s_iconst_0 hJ d_91_72 ?_
  refine s_puti hJ lf_4_53 rfl d_91_73 (show zs_44.2.1 21 = some (.inl 4) from rfl) ?_
  refine ei_40 ?_
  refine s_aload_n hJ d_91_76 rfl ?_
  refine s_aload_n hJ d_91_77 rfl ?_
  refine s_putr hJ lf_4_56 (Or.inr ⟨rfl, rfl⟩) rfl (Or.inr ⟨_, rfl⟩) d_91_78 (show zs_44.2.1 21 = some (.inl 4) from rfl) ?_
  refine en_45 ?_
  refine s_aload_n hJ d_91_81 rfl ?_
  refine s_aload_n hJ d_91_82 rfl ?_
  refine s_putr hJ lf_4_60 (Or.inr ⟨rfl, rfl⟩) rfl (Or.inr ⟨_, rfl⟩) d_91_83 (show zs_45.2.1 21 = some (.inl 4) from rfl) ?_
  refine en_46 ?_
  refine s_iconst_0 hJ d_91_86 ?_
  refine s_istore_n hJ d_91_87 (Nat.le_of_ble_eq_true rfl) ?_
  refine s_iload_n hJ d_91_88 rfl ?_
  refine s_iconst_3 hJ d_91_89 ?_
  refine s_icmp_ge (tgt := 113) hJ d_91_90 rfl (fun h => absurd h (by decide)) (fun _ => ?_)
  refine s_aload_n hJ d_91_93 rfl ?_
  refine s_getr hJ lf_4_11 rfl d_91_94 (show zs_46.2.1 21 = some (.inl 4) from rfl) (show zs_46.2.2 21 2 = .ref 22 from rfl) ?_
  refine s_iload_n hJ d_91_97 rfl ?_
  refine s_new hJ ln_4_9 d_91_98 (by decide) (by decide) ?_
  refine en_47 ?_
  refine s_dup hJ d_91_101 rfl ?_
  refine s_aload_n hJ d_91_102 rfl ?_
  refine s_I1 (k := 8) (w := 80) hJ lm_4_64 d_91_103 (Nat.le_of_ble_eq_true rfl) (fun _ _ => ⟨by decide, by decide⟩) ?_
  refine ctor_25 (d := d + 0) ?_
  refine s_aast hJ d_91_106 (show zs_67.2.1 22 = some (.inr (4, 3)) from rfl) tc_4 (show zs_67.2.1 25 = some (.inl 9) from rfl) (by unfold vp_in; decide) ?_
  refine en_68 ?_
  refine s_iinc (v := 1) hJ d_91_107 rfl (by decide) ?_
  refine s_goto (tgt := 88) hJ d_91_110 rfl ?_
  refine s_iload_n hJ d_91_88 rfl ?_
  refine s_iconst_3 hJ d_91_89 ?_
  refine s_icmp_ge (tgt := 113) hJ d_91_90 rfl (fun h => absurd h (by decide)) (fun _ => ?_)
  refine s_aload_n hJ d_91_93 rfl ?_
  refine s_getr hJ lf_4_11 rfl d_91_94 (show zs_68.2.1 21 = some (.inl 4) from rfl) (show zs_68.2.2 21 2 = .ref 22 from rfl) ?_
  refine s_iload_n hJ d_91_97 rfl ?_
  refine s_new hJ ln_4_9 d_91_98 (by decide) (by decide) ?_
  refine en_69 ?_
  refine s_dup hJ d_91_101 rfl ?_
  refine s_aload_n hJ d_91_102 rfl ?_
  refine s_I1 (k := 8) (w := 80) hJ lm_4_64 d_91_103 (Nat.le_of_ble_eq_true rfl) (fun _ _ => ⟨by decide, by decide⟩) ?_
  refine ctor_34 (d := d + 0) ?_
  refine s_aast hJ d_91_106 (show zs_89.2.1 22 = some (.inr (4, 3)) from rfl) tc_4 (show zs_89.2.1 34 = some (.inl 9) from rfl) (by unfold vp_in; decide) ?_
  refine en_90 ?_
  refine s_iinc (v := 1) hJ d_91_107 rfl (by decide) ?_
  refine s_goto (tgt := 88) hJ d_91_110 rfl ?_
  refine s_iload_n hJ d_91_88 rfl ?_
  refine s_iconst_3 hJ d_91_89 ?_
  refine s_icmp_ge (tgt := 113) hJ d_91_90 rfl (fun h => absurd h (by decide)) (fun _ => ?_)
  refine s_aload_n hJ d_91_93 rfl ?_
  refine s_getr hJ lf_4_11 rfl d_91_94 (show zs_90.2.1 21 = some (.inl 4) from rfl) (show zs_90.2.2 21 2 = .ref 22 from rfl) ?_
  refine s_iload_n hJ d_91_97 rfl ?_
  refine s_new hJ ln_4_9 d_91_98 (by decide) (by decide) ?_
  refine en_91 ?_
  refine s_dup hJ d_91_101 rfl ?_
  refine s_aload_n hJ d_91_102 rfl ?_
  refine s_I1 (k := 8) (w := 80) hJ lm_4_64 d_91_103 (Nat.le_of_ble_eq_true rfl) (fun _ _ => ⟨by decide, by decide⟩) ?_
  refine ctor_43 (d := d + 0) ?_
  refine s_aast hJ d_91_106 (show zs_111.2.1 22 = some (.inr (4, 3)) from rfl) tc_4 (show zs_111.2.1 43 = some (.inl 9) from rfl) (by unfold vp_in; decide) ?_
  refine en_112 ?_
  refine s_iinc (v := 1) hJ d_91_107 rfl (by decide) ?_
  refine s_goto (tgt := 88) hJ d_91_110 rfl ?_
  refine s_iload_n hJ d_91_88 rfl ?_
  refine s_iconst_3 hJ d_91_89 ?_
  refine s_icmp_ge (tgt := 113) hJ d_91_90 rfl (fun _ => ?_) (fun h => absurd (by decide) h)
  refine s_aload_n hJ d_91_113 rfl ?_
  refine s_aload_n hJ d_91_114 rfl ?_
  refine s_getr hJ lf_4_11 rfl d_91_115 (show zs_112.2.1 21 = some (.inl 4) from rfl) (show zs_112.2.2 21 2 = .ref 22 from rfl) ?_
  refine s_iconst_0 hJ d_91_118 ?_
  refine s_aald hJ d_91_119 (show zs_112.2.1 22 = some (.inr (4, 3)) from rfl) tc_4 (by unfold vp_in; decide) (show zs_112.2.2 22 0 = .ref 25 from rfl) ?_
  refine s_putr hJ lf_4_67 (Or.inl rfl) rfl (Or.inr ⟨_, rfl⟩) d_91_120 (show zs_112.2.1 21 = some (.inl 4) from rfl) ?_
  refine en_113 ?_
  exact s_vret hJ d_91_123 rfl hQ
set_option maxRecDepth 20000 in
theorem ctor_19 {d : Nat} {Q : aj_Q} (hQ : Q none zs_114 is_145 aj_G0) : aj_T (d + 4) 32 287 102 [.ref 19, .ref 17] zs_34 is_23 aj_G0 Q := by
  refine t_102 fun J hJ => ?_
  refine s_aload_n hJ d_102_0 rfl ?_
  refine s_objinit hJ lo_5_3 d_102_1 (Nat.le_of_ble_eq_true rfl) ?_
  refine s_aload_n hJ d_102_4 rfl ?_
  refine s_aload_n hJ d_102_5 rfl ?_
  refine s_putr hJ lf_5_9 (Or.inr ⟨rfl, rfl⟩) rfl (Or.inr ⟨_, rfl⟩) d_102_6 (show zs_34.2.1 19 = some (.inl 5) from rfl) ?_
  refine en_35 ?_
  refine s_aload_n hJ d_102_9 rfl ?_
  refine s_new hJ ln_5_15 d_102_10 (by decide) (by decide) ?_
  refine en_36 ?_
  refine s_dup hJ d_102_13 rfl ?_
  refine s_I0 (k := 0) (w := 0) hJ lm_5_17 d_102_14 (Nat.le_of_ble_eq_true rfl) (fun _ _ => ⟨by decide, by decide⟩) ?_
  refine ctor_20 (d := d + 2) ?_
  refine s_putr hJ lf_5_18 (Or.inr ⟨rfl, rfl⟩) rfl (Or.inr ⟨_, rfl⟩) d_102_17 (show zs_36.2.1 19 = some (.inl 5) from rfl) ?_
  refine en_37 ?_
  refine s_aload_n hJ d_102_20 rfl ?_
  refine s_new hJ ln_5_22 d_102_21 (by decide) (by decide) ?_
  refine en_38 ?_
  refine s_dup hJ d_102_24 rfl ?_
  refine s_aload_n hJ d_102_25 rfl ?_
  refine s_aload_n hJ d_102_26 rfl ?_
  refine s_getr hJ lf_5_18 rfl d_102_27 (show zs_38.2.1 19 = some (.inl 5) from rfl) (show zs_38.2.2 19 1 = .ref 20 from rfl) ?_
  refine s_I2 (k := 30) (w := 269) hJ lm_5_24 d_102_30 (Nat.le_of_ble_eq_true rfl) (fun _ _ => ⟨by decide, by decide⟩) ?_
  refine ctor_21 (d := d + 0) ?_
  refine s_putr hJ lf_5_27 (Or.inr ⟨rfl, rfl⟩) rfl (Or.inr ⟨_, rfl⟩) d_102_33 (show zs_113.2.1 19 = some (.inl 5) from rfl) ?_
  refine en_114 ?_
  exact s_vret hJ d_102_36 rfl hQ
set_option maxRecDepth 20000 in
theorem ctor_52 {d : Nat} {Q : aj_Q} (hQ : Q none zs_120 is_150 aj_G0) : aj_T (d + 1) 1 48 154 [.ref 52, .ref 3, .ref 17] zs_116 is_146 aj_G0 Q := by
  refine t_154 fun J hJ => ?_
  refine s_aload_n hJ d_154_0 rfl ?_
  refine s_objinit hJ lo_10_3 d_154_1 (Nat.le_of_ble_eq_true rfl) ?_
  refine s_aload_n hJ d_154_4 rfl ?_
  refine s_bipush (v := 48) hJ d_154_5 (by decide) ?_
  refine s_newa (n := 48) hJ pa_0 d_154_7 (by rfl) (by decide) (by decide) (by decide) ?_
  refine en_117 ?_
  refine s_putr hJ lf_10_9 (Or.inr ⟨rfl, rfl⟩) rfl (Or.inr ⟨_, rfl⟩) d_154_9 (show zs_117.2.1 52 = some (.inl 10) from rfl) ?_
  refine en_118 ?_
  refine s_aload_n hJ d_154_12 rfl ?_
  refine s_iconst_1 hJ d_154_13 ?_
  refine s_puti hJ lf_10_15 rfl d_154_14 (show zs_118.2.1 52 = some (.inl 10) from rfl) ?_
  refine ei_148 ?_
  refine s_aload_n hJ d_154_17 rfl ?_
  refine s_iconst_0 hJ d_154_18 ?_
  refine s_putz hJ lf_10_19 rfl (by decide) d_154_19 (show zs_118.2.1 52 = some (.inl 10) from rfl) ?_
  refine ei_149 ?_
  refine s_aload_n hJ d_154_22 rfl ?_
  refine s_iconst_0 hJ d_154_23 ?_
  refine s_putz hJ lf_10_23 rfl (by decide) d_154_24 (show zs_118.2.1 52 = some (.inl 10) from rfl) ?_
  refine ei_150 ?_
  refine s_aload_n hJ d_154_27 rfl ?_
  refine s_aload_n hJ d_154_28 rfl ?_
  refine s_putr hJ lf_10_26 (Or.inr ⟨rfl, rfl⟩) rfl (Or.inr ⟨_, rfl⟩) d_154_29 (show zs_118.2.1 52 = some (.inl 10) from rfl) ?_
  refine en_119 ?_
  refine s_aload_n hJ d_154_32 rfl ?_
  refine s_aload_n hJ d_154_33 rfl ?_
  refine s_putr hJ lf_10_30 (Or.inr ⟨rfl, rfl⟩) rfl (Or.inr ⟨_, rfl⟩) d_154_34 (show zs_119.2.1 52 = some (.inl 10) from rfl) ?_
  refine en_120 ?_
  exact s_vret hJ d_154_37 rfl hQ
set_option maxRecDepth 20000 in
theorem ctor_2 {d : Nat} {Q : aj_Q} (hQ : Q none zs_121 is_150 aj_G0) : aj_T (d + 5) 51 1707 0 [.ref 2] zs_1 is_1 aj_G0 Q := by
  refine t_0 fun J hJ => ?_
  refine s_aload_n hJ d_0_0 rfl ?_
  refine s_objinit hJ lo_0_1 d_0_1 (Nat.le_of_ble_eq_true rfl) ?_
  refine s_aload_n hJ d_0_4 rfl ?_
  refine s_new hJ ln_0_7 d_0_5 (by decide) (by decide) ?_
  refine en_2 ?_
  refine s_dup hJ d_0_8 rfl ?_
  refine s_I0 (k := 13) (w := 159) hJ lm_0_9 d_0_9 (Nat.le_of_ble_eq_true rfl) (fun _ _ => ⟨by decide, by decide⟩) ?_
  refine ctor_3 (d := d + 2) ?_
  refine s_putr hJ lf_0_10 (Or.inr ⟨rfl, rfl⟩) rfl (Or.inr ⟨_, rfl⟩) d_0_12 (show zs_28.2.1 2 = some (.inl 0) from rfl) ?_
  refine en_29 ?_
  refine s_aload_n hJ d_0_15 rfl ?_
  refine s_new hJ ln_0_16 d_0_16 (by decide) (by decide) ?_
  refine en_30 ?_
  refine s_dup hJ d_0_19 rfl ?_
  refine s_I0 (k := 1) (w := 1200) hJ lm_0_18 d_0_20 (Nat.le_of_ble_eq_true rfl) (fun _ _ => ⟨by decide, by decide⟩) ?_
  refine ctor_17 (d := d + 3) ?_
  refine s_putr hJ lf_0_19 (Or.inr ⟨rfl, rfl⟩) rfl (Or.inr ⟨_, rfl⟩) d_0_23 (show zs_32.2.1 2 = some (.inl 0) from rfl) ?_
  refine en_33 ?_
  refine s_aload_n hJ d_0_26 rfl ?_
  refine s_new hJ ln_0_23 d_0_27 (by decide) (by decide) ?_
  refine en_34 ?_
  refine s_dup hJ d_0_30 rfl ?_
  refine s_aload_n hJ d_0_31 rfl ?_
  refine s_getr hJ lf_0_19 rfl d_0_32 (show zs_34.2.1 2 = some (.inl 0) from rfl) (show zs_34.2.2 2 1 = .ref 17 from rfl) ?_
  refine s_I1 (k := 32) (w := 287) hJ lm_0_25 d_0_35 (Nat.le_of_ble_eq_true rfl) (fun _ _ => ⟨by decide, by decide⟩) ?_
  refine ctor_19 (d := d + 0) ?_
  refine s_putr hJ lf_0_28 (Or.inr ⟨rfl, rfl⟩) rfl (Or.inr ⟨_, rfl⟩) d_0_38 (show zs_114.2.1 2 = some (.inl 0) from rfl) ?_
  refine en_115 ?_
  refine s_aload_n hJ d_0_41 rfl ?_
  refine s_new hJ ln_0_32 d_0_42 (by decide) (by decide) ?_
  refine en_116 ?_
  refine s_dup hJ d_0_45 rfl ?_
  refine s_aload_n hJ d_0_46 rfl ?_
  refine s_getr hJ lf_0_10 rfl d_0_47 (show zs_116.2.1 2 = some (.inl 0) from rfl) (show zs_116.2.2 2 0 = .ref 3 from rfl) ?_
  refine s_aload_n hJ d_0_50 rfl ?_
  refine s_getr hJ lf_0_19 rfl d_0_51 (show zs_116.2.1 2 = some (.inl 0) from rfl) (show zs_116.2.2 2 1 = .ref 17 from rfl) ?_
  refine s_I2 (k := 1) (w := 48) hJ lm_0_34 d_0_54 (Nat.le_of_ble_eq_true rfl) (fun _ _ => ⟨by decide, by decide⟩) ?_
  refine ctor_52 (d := d + 3) ?_
  refine s_putr hJ lf_0_37 (Or.inr ⟨rfl, rfl⟩) rfl (Or.inr ⟨_, rfl⟩) d_0_57 (show zs_120.2.1 2 = some (.inl 0) from rfl) ?_
  refine en_121 ?_
  exact s_vret hJ d_0_60 rfl hQ
set_option maxRecDepth 20000 in
theorem ctor_54 {d : Nat} {Q : aj_Q} (hQ : Q none zs_154 is_168 aj_G0) : aj_T (d + 1) 16 1544 19 [.ref 54] zs_122 is_151 aj_G0 Q := by
  refine t_19 fun J hJ => ?_
  refine s_aload_n hJ d_19_0 rfl ?_
  refine s_objinit hJ lo_1_1 d_19_1 (Nat.le_of_ble_eq_true rfl) ?_
  refine s_aload_n hJ d_19_4 rfl ?_
  refine s_iconst_3 hJ d_19_5 ?_
  refine s_newa (n := 3) hJ pa_0 d_19_6 (by rfl) (by decide) (by decide) (by decide) ?_
  refine en_123 ?_
  refine s_putr hJ lf_1_7 (Or.inr ⟨rfl, rfl⟩) rfl (Or.inr ⟨_, rfl⟩) d_19_8 (show zs_123.2.1 54 = some (.inl 1) from rfl) ?_
  refine en_124 ?_
  refine s_aload_n hJ d_19_11 rfl ?_
  refine s_bipush (v := 48) hJ d_19_12 (by decide) ?_
  refine s_newa (n := 48) hJ pa_0 d_19_14 (by rfl) (by decide) (by decide) (by decide) ?_
  refine en_125 ?_
  refine s_putr hJ lf_1_13 (Or.inr ⟨rfl, rfl⟩) rfl (Or.inr ⟨_, rfl⟩) d_19_16 (show zs_125.2.1 54 = some (.inl 1) from rfl) ?_
  refine en_126 ?_
  refine s_aload_n hJ d_19_19 rfl ?_
  refine s_bipush (v := 48) hJ d_19_20 (by decide) ?_
  refine s_newa (n := 48) hJ pa_0 d_19_22 (by rfl) (by decide) (by decide) (by decide) ?_
  refine en_127 ?_
  refine s_putr hJ lf_1_16 (Or.inr ⟨rfl, rfl⟩) rfl (Or.inr ⟨_, rfl⟩) d_19_24 (show zs_127.2.1 54 = some (.inl 1) from rfl) ?_
  refine en_128 ?_
  refine s_aload_n hJ d_19_27 rfl ?_
  refine s_bipush (v := 48) hJ d_19_28 (by decide) ?_
  refine s_newa (n := 48) hJ pa_1 d_19_30 (by rfl) (by decide) (by decide) (by decide) ?_
  refine en_129 ?_
  refine s_putr hJ lf_1_19 (Or.inr ⟨rfl, rfl⟩) rfl (Or.inr ⟨_, rfl⟩) d_19_32 (show zs_129.2.1 54 = some (.inl 1) from rfl) ?_
  refine en_130 ?_
  refine s_aload_n hJ d_19_35 rfl ?_
  refine s_sipush (v := 1200) hJ d_19_36 (by decide) ?_
  refine s_newa (n := 1200) hJ pa_0 d_19_39 (by rfl) (by decide) (by decide) (by decide) ?_
  refine en_131 ?_
  refine s_putr hJ lf_1_23 (Or.inr ⟨rfl, rfl⟩) rfl (Or.inr ⟨_, rfl⟩) d_19_41 (show zs_131.2.1 54 = some (.inl 1) from rfl) ?_
  refine en_132 ?_
  refine s_aload_n hJ d_19_44 rfl ?_
  refine s_iconst_m1 hJ d_19_45 ?_
  refine s_puti hJ lf_1_26 rfl d_19_46 (show zs_132.2.1 54 = some (.inl 1) from rfl) ?_
  refine ei_157 ?_
  refine s_aload_n hJ d_19_49 rfl ?_
  refine s_iconst_4 hJ d_19_50 ?_
  refine s_newa (n := 4) hJ pa_0 d_19_51 (by rfl) (by decide) (by decide) (by decide) ?_
  refine en_133 ?_
  refine s_putr hJ lf_1_30 (Or.inr ⟨rfl, rfl⟩) rfl (Or.inr ⟨_, rfl⟩) d_19_53 (show zs_133.2.1 54 = some (.inl 1) from rfl) ?_
  refine en_134 ?_
  refine s_aload_n hJ d_19_56 rfl ?_
  refine s_iconst_4 hJ d_19_57 ?_
  refine s_newa (n := 4) hJ pa_0 d_19_58 (by rfl) (by decide) (by decide) (by decide) ?_
  refine en_135 ?_
  refine s_putr hJ lf_1_33 (Or.inr ⟨rfl, rfl⟩) rfl (Or.inr ⟨_, rfl⟩) d_19_60 (show zs_135.2.1 54 = some (.inl 1) from rfl) ?_
  refine en_136 ?_
  refine s_aload_n hJ d_19_63 rfl ?_
  refine s_iconst_3 hJ d_19_64 ?_
  refine s_newa (n := 3) hJ pa_0 d_19_65 (by rfl) (by decide) (by decide) (by decide) ?_
  refine en_137 ?_
  refine s_putr hJ lf_1_36 (Or.inr ⟨rfl, rfl⟩) rfl (Or.inr ⟨_, rfl⟩) d_19_67 (show zs_137.2.1 54 = some (.inl 1) from rfl) ?_
  refine en_138 ?_
  refine s_aload_n hJ d_19_70 rfl ?_
  refine s_bipush (v := 12) hJ d_19_71 (by decide) ?_
  refine s_newa (n := 12) hJ pa_0 d_19_73 (by rfl) (by decide) (by decide) (by decide) ?_
  refine en_139 ?_
  refine s_putr hJ lf_1_39 (Or.inr ⟨rfl, rfl⟩) rfl (Or.inr ⟨_, rfl⟩) d_19_75 (show zs_139.2.1 54 = some (.inl 1) from rfl) ?_
  refine en_140 ?_
  refine s_aload_n hJ d_19_78 rfl ?_
  refine s_bipush (v := 12) hJ d_19_79 (by decide) ?_
  refine s_newa (n := 12) hJ pa_0 d_19_81 (by rfl) (by decide) (by decide) (by decide) ?_
  refine en_141 ?_
  refine s_putr hJ lf_1_42 (Or.inr ⟨rfl, rfl⟩) rfl (Or.inr ⟨_, rfl⟩) d_19_83 (show zs_141.2.1 54 = some (.inl 1) from rfl) ?_
  refine en_142 ?_
  refine s_aload_n hJ d_19_86 rfl ?_
  refine s_bipush (v := 12) hJ d_19_87 (by decide) ?_
  refine s_newa (n := 12) hJ pa_0 d_19_89 (by rfl) (by decide) (by decide) (by decide) ?_
  refine en_143 ?_
  refine s_putr hJ lf_1_45 (Or.inr ⟨rfl, rfl⟩) rfl (Or.inr ⟨_, rfl⟩) d_19_91 (show zs_143.2.1 54 = some (.inl 1) from rfl) ?_
  refine en_144 ?_
  refine s_aload_n hJ d_19_94 rfl ?_
  refine s_iconst_3 hJ d_19_95 ?_
  refine s_newa (n := 3) hJ pa_3 d_19_96 (by rfl) (by decide) (by decide) (by decide) ?_
  refine en_145 ?_
  refine s_putr hJ lf_1_48 (Or.inr ⟨rfl, rfl⟩) rfl (Or.inr ⟨_, rfl⟩) d_19_98 (show zs_145.2.1 54 = some (.inl 1) from rfl) ?_
  refine en_146 ?_
  refine s_aload_n hJ d_19_101 rfl ?_
  refine s_iconst_3 hJ d_19_102 ?_
  refine s_newa (n := 3) hJ pa_0 d_19_103 (by rfl) (by decide) (by decide) (by decide) ?_
  refine en_147 ?_
  refine s_putr hJ lf_1_52 (Or.inr ⟨rfl, rfl⟩) rfl (Or.inr ⟨_, rfl⟩) d_19_105 (show zs_147.2.1 54 = some (.inl 1) from rfl) ?_
  refine en_148 ?_
  refine s_aload_n hJ d_19_108 rfl ?_
  refine s_bipush (v := 48) hJ d_19_109 (by decide) ?_
  refine s_newa (n := 48) hJ pa_0 d_19_111 (by rfl) (by decide) (by decide) (by decide) ?_
  refine en_149 ?_
  refine s_putr hJ lf_1_55 (Or.inr ⟨rfl, rfl⟩) rfl (Or.inr ⟨_, rfl⟩) d_19_113 (show zs_149.2.1 54 = some (.inl 1) from rfl) ?_
  refine en_150 ?_
  refine s_aload_n hJ d_19_116 rfl ?_
  refine s_bipush (v := 48) hJ d_19_117 (by decide) ?_
  refine s_newa (n := 48) hJ pa_0 d_19_119 (by rfl) (by decide) (by decide) (by decide) ?_
  refine en_151 ?_
  refine s_putr hJ lf_1_58 (Or.inr ⟨rfl, rfl⟩) rfl (Or.inr ⟨_, rfl⟩) d_19_121 (show zs_151.2.1 54 = some (.inl 1) from rfl) ?_
  refine en_152 ?_
  refine s_aload_n hJ d_19_124 rfl ?_
  refine s_bipush (v := 48) hJ d_19_125 (by decide) ?_
  refine s_newa (n := 48) hJ pa_1 d_19_127 (by rfl) (by decide) (by decide) (by decide) ?_
  refine en_153 ?_
  refine s_putr hJ lf_1_61 (Or.inr ⟨rfl, rfl⟩) rfl (Or.inr ⟨_, rfl⟩) d_19_129 (show zs_153.2.1 54 = some (.inl 1) from rfl) ?_
  refine en_154 ?_
  exact s_vret hJ d_19_132 rfl hQ
