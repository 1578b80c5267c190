/-! read: the reference's tables are right; do they agree -/
section MG
variable {Z : aj_Z} {I : aj_I} {G : aj_G} {Q : aj_Q} {len : Nat} {b : Nat → Nat} {s : r_ps} {t : Nat} {w : Bool} {bx ct st : Nat → Nat} {d mc ms : Nat}
theorem M_readTables (hz : zAll Z) (hf : mF I len b) (hB : r_B len 0 s) (hM : fmT I s)
    (h0 : ∀ k p : Int32, r_f45s b s 0 (ps_fd s) = some (k, p) → k ≠ 0 → Q (some (.int k)) Z (aj_u2 I 54 7 p) G)
    (h1 : r_f45s b s 0 (ps_fd s) = none → (∀ t, t < ps_fd s → s_oks b s t) → Q (some (.int 0)) Z I G) : aj_T (d + 5) mc ms 59 [.ref 54] Z I G Q := by
  have hfd := hB.1
  have h15 := hM.2.2.2.1
  refine t_59 fun J hJ => b_59_0 hJ ?_
  have key : ∀ (m t : Nat) (w2 : Option Value), m + t = ps_fd s → r_f45s b s 0 (ps_fd s) = r_f45s b s t m → (∀ u, u < t → s_oks b s u) → J 2 [some (.ref 54), some (.int (nI t)), w2] [] Z I G (0, 0) := by
    intro m
    induction m with
    | zero =>
      intro t w2 ht he hall
      refine b_59_2 hJ (zk_54 hz) (fun _ => h1 he (fun u hu => hall u (by omega))) (fun z => ?_)
      rw [h15] at z
      exact absurd (nI_le (by omega) (by omega)) z
    | succ m ih =>
      intro t w2 ht he hall
      have ht3 : t < 3 := by omega
      have tk := fm_tk hM hB (show t < ps_fd s by omega)
      refine b_59_2 hJ (zk_54 hz) (fun z => ?_) (fun _ => ?_)
      · rw [h15] at z
        exact absurd z (nI_ge (by omega) (by omega))
      have inner : ∀ (m' k : Nat), m' + k = 4 → r_f45 b s t 0 4 = r_f45 b s t k m' → (∀ j, j < k → r_len b j (ps_wd s t) (ps_ct s t j) (ps_st s t j) ∧ r_num b j (ps_wd s t) (ps_ct s t j)) → J 12 [some (.ref 54), some (.int (nI t)), some (.int (nI k))] [] Z I G (0, 0) := by
        intro m'
        induction m' with
        | zero =>
          intro k hk he2 hall2
          have hst : (4 : Int32) ≤ nI k := nI_le (a := 4) (by omega) (by omega)
          refine b_59_12 hJ (fun _ => ?_) (zk_54 hz) (fun z => absurd hst z)
          rw [nI_1]
          refine ih (t + 1) _ (by omega) (by rw [he]; exact r_f45s_n he2) (fun u hu => ?_)
          by_cases q : u = t
          · rw [q]; exact fun j hj => hall2 j (by omega)
          · exact hall u (by omega)
        | succ m' ih2 =>
          intro k hk he2 hall2
          have hk4 : k < 4 := by omega
          have vi : vp_in (4 * nI t + nI k) 12 := by rw [sm_4]; exact vp_in_nI (by omega) (by decide)
          have eb : I 63 (4 * nI t + nI k).toNatClampNeg = nI (ps_bx s t k) := by rw [sm_4, nI_clamp (by omega)]; exact (tk.2 k hk4).1
          refine b_59_12 hJ (fun z => absurd z (nI_ge (b := 4) (by omega) (by decide))) (zk_54 hz) (fun _ => ?_)
          refine M_hasLength hz hf ht3 tk hk4 (fun a1 => b_59_23 hJ (zk_54 hz) (fun _ => ?_) (zr_54_17 hz) (zk_63 hz) (fun z => absurd z (by decide)) (fun z => absurd z (by decide))) (fun a1 => b_59_23 hJ (zk_54 hz) (fun z => absurd rfl z) (zr_54_17 hz) (zk_63 hz) (fun _ => vi) (fun _ => ?_))
          · refine M_areNumbersRight hz hf ht3 tk hk4 a1 (fun a2 => b_59_48 hJ (fun _ => ?_) (zk_54 hz) (zr_54_17 hz) (zk_63 hz) (fun z => absurd z (by decide)) (fun z => absurd z (by decide))) (fun a2 => b_59_48 hJ (fun z => absurd rfl z) (zk_54 hz) (zr_54_17 hz) (zk_63 hz) (fun _ => vi) (fun _ => ?_))
            · rw [nI_1]
              refine ih2 (k + 1) (by omega) (by rw [he2]; exact r_f45_on a1 a2) (fun j hj => ?_)
              by_cases q : j = k
              · rw [q]; exact ⟨a1, a2⟩
              · exact hall2 j (by omega)
            · rw [eb]
              exact M_tell hz (b_59_66 hJ (h0 5 _ (by rw [he]; exact r_f45s_s (by rw [he2]; exact r_f45_5 a1 a2)) (by decide)))
          · rw [eb]
            exact M_tell hz (b_59_41 hJ (h0 4 _ (by rw [he]; exact r_f45s_s (by rw [he2]; exact r_f45_4 a1)) (by decide)))
      exact inner 4 0 rfl rfl (fun j hj => absurd hj (Nat.not_lt_zero _))
  exact key (ps_fd s) 0 _ (Nat.add_zero _) rfl (fun u hu => absurd hu (Nat.not_lt_zero _))
theorem M_perChunk (hz : zAll Z) (hf : mF I len b) (ht3 : t < 3) (ht : tkM I t w bx ct st len) (hr : s_ok b w ct st) {c : Nat} (hc : c < 2 ^ 31) (hQ : Q (some (.long (lN (s_pc (s_F b w ct) (s_P b w ct) c (r_lst b 1 (ct 1)))))) Z I G) : aj_T (d + 4) mc ms 60 [.ref 54, .int (nI t), .int (nI c)] Z I G Q := by
  have r1 := hr 1 (by decide)
  have tk := ht.2 1 (by decide)
  have hle := r_lst_le hf.cl tk.2.2.2.2 r1.1
  refine t_60 fun J hJ => b_60_0 hJ ?_
  have key : ∀ (m e : Nat) (w4 : Option Value), m + e = r_lst b 1 (ct 1) → J 5 [some (.ref 54), some (.int (nI t)), some (.int (nI c)), some (.long (lN (s_pc (s_F b w ct) (s_P b w ct) c e))), w4, some (.int (nI e))] [] Z I G (0, 0) := by
    intro m
    induction m with
    | zero =>
      intro e w4 he
      have he : e = r_lst b 1 (ct 1) := by omega
      have hst : lN (r_lst b 1 (ct 1)) ≤ Int32.toInt64 (nI e) := by rw [nI_l (by omega), l_le (by omega) (by omega)]; omega
      refine b_60_5 hJ (zk_54 hz) (M_entriesOf (k := 1) hz hf ht3 ht (by decide) r1.1.1 (b_60_14 hJ (fun _ => ?_) (zk_54 hz) (fun z => absurd hst z)))
      rw [he]; exact hQ
    | succ m ih =>
      intro e w4 he
      have bF : s_F b w ct e < 4294967296 := r_en_lt4 hf.cl tk.2.2.2.1 tk.2.2.2.2 r1.1 (by decide) (show e < r_lst b 1 (ct 1) by omega) (r_col_0 (k := 1) (w := w))
      have nst : ¬ lN (r_lst b 1 (ct 1)) ≤ Int32.toInt64 (nI e) := by rw [nI_l (by omega), l_le (by omega) (by omega)]; omega
      refine b_60_5 hJ (zk_54 hz) (M_entriesOf (k := 1) hz hf ht3 ht (by decide) r1.1.1 (b_60_14 hJ (fun z => absurd z nst) (zk_54 hz) (fun _ => ?_)))
      refine M_entry (k := 1) (j := 0) hz hf ht3 ht (by decide) r1.1 (by omega) r_col_0 (b_60_27 hJ (fun z => ?_) (zk_54 hz) (fun z => ?_))
      · rw [nI_l hc, show r_en b 1 w (ct 1) e 0 = s_F b w ct e from rfl, l_lt (by omega) (by omega)] at z
        rw [nI_1]
        have := ih (e + 1) none (by omega)
        rw [show s_pc (s_F b w ct) (s_P b w ct) c (e + 1) = s_pc (s_F b w ct) (s_P b w ct) c e from if_neg (by omega)] at this
        exact this
      · rw [nI_l hc, show r_en b 1 w (ct 1) e 0 = s_F b w ct e from rfl, l_lt (by omega) (by omega)] at z
        refine M_entry (k := 1) (j := 1) hz hf ht3 ht (by decide) r1.1 (by omega) r_col_11 (b_60_42 hJ ?_)
        rw [nI_1]
        have := ih (e + 1) none (by omega)
        rw [show s_pc (s_F b w ct) (s_P b w ct) c (e + 1) = s_P b w ct e from if_pos (by omega)] at this
        exact this
  exact key (r_lst b 1 (ct 1)) 0 _ (Nat.add_zero _)
theorem M_sizeOf (hz : zAll Z) (hf : mF I len b) (ht3 : t < 3) (ht : tkM I t w bx ct st len) (hr : s_ok b w ct st) {i : Nat} (hi : i < s_n b ct) (hQ : Q (some (.long (lN (s_S b w ct i)))) Z I G) : aj_T (d + 3) mc ms 61 [.ref 54, .int (nI t), .int (nI i)] Z I G Q := by
  have r2 := hr 2 (by decide)
  have tk := ht.2 2 (by decide)
  have hs := r_sfa_lt hf.cl tk.2.2.2.2 r2.1.1
  have hlen := hf.2.1
  have hh := r2.1.1
  have hw2 : r_hw 2 = 12 := rfl
  have es : r_sfa b 2 (ct 2) = fn_nb b (ct 2 + 4) 4 := if_pos rfl
  have e42 : (4 : Int32) * nI t + 2 = nI (4 * t + 2) := sm_4 t 2
  unfold s_S at hQ
  refine t_61 fun J hJ => b_61_0 hJ (zk_54 hz) (zr_54_18 hz) (zk_64 hz) (by rw [e42]; exact vp_in_nI (by omega) (by decide)) ?_
  rw [e42, nI_clamp (show 4 * t + 2 < 2 ^ 31 by omega), tk.2.1, show nI (ct 2) + 4 = nI (ct 2 + 4) from nI_add _ 4]
  refine M_numberAt (w := 4) hz hf (by omega) (by decide) ?_
  rw [← es]
  refine b_61_17 hJ (zk_54 hz) (fun q => ?_) (fun q => ?_)
  · rw [show (0 : Int64) = lN 0 from rfl, l_eq (by omega) (by decide)] at q
    rw [if_pos q] at hQ
    refine M_entry (k := 2) (j := 0) hz hf ht3 ht (by decide) r2.1 ?_ r_col_0 (b_61_36 hJ hQ)
    rw [show r_lst b 2 (ct 2) = r_told b 2 (ct 2) from if_pos q]
    exact hi
  · rw [show (0 : Int64) = lN 0 from rfl, l_eq (by omega) (by decide)] at q
    rw [if_neg q] at hQ
    exact b_61_36 hJ hQ
theorem s_S_lt {I : aj_I} (hf : mF I len b) (ht : tkM I t w bx ct st len) (hr : s_ok b w ct st) {i : Nat} (hi : i < s_n b ct) : s_S b w ct i < 4294967296 := by
  have r2 := hr 2 (by decide)
  have tk := ht.2 2 (by decide)
  unfold s_S
  split
  · rename_i q
    refine r_en_lt4 hf.cl tk.2.2.2.1 tk.2.2.2.2 r2.1 (by decide) ?_ r_col_0
    rw [show r_lst b 2 (ct 2) = r_told b 2 (ct 2) from if_pos q]
    exact hi
  · exact r_sfa_lt hf.cl tk.2.2.2.2 r2.1.1
theorem s_pc_le {ct st : Nat → Nat} (hr : s_ok b w ct st) (c : Nat) : ∀ m, m ≤ r_lst b 1 (ct 1) → s_pc (s_F b w ct) (s_P b w ct) c m ≤ 2 ^ 31
  | 0, _ => Nat.zero_le _
  | m + 1, hm => by
    show (if s_F b w ct m ≤ c then s_P b w ct m else s_pc (s_F b w ct) (s_P b w ct) c m) ≤ _
    split
    · exact Nat.le_of_lt (((hr 1 (by decide)).2.2 m hm).2.2 rfl).2.2.1
    · exact s_pc_le hr c m (by omega)
theorem M_agrees (hz : zAll Z) (hf : mF I len b) (ht3 : t < 3) (ht : tkM I t w bx ct st len) (hr : s_ok b w ct st) (h1 : s_agr b w ct → Q (some (.int 1)) Z I G) (h0 : ¬ s_agr b w ct → Q (some (.int 0)) Z I G) : aj_T (d + 5) mc ms 62 [.ref 54, .int (nI t)] Z I G Q := by
  have r0 := hr 0 (by decide)
  have r1 := hr 1 (by decide)
  have r2 := hr 2 (by decide)
  have r3 := hr 3 (by decide)
  have tk0 := ht.2 0 (by decide)
  have tk1 := ht.2 1 (by decide)
  have hle0 := r_lst_le hf.cl tk0.2.2.2.2 r0.1
  have hle1 := r_lst_le hf.cl tk1.2.2.2.2 r1.1
  have hn2 : s_n b ct < 2 ^ 31 := r2.2.1.2.1
  have hn3 : s_c b ct < 2 ^ 31 := r3.2.1.2.1
  have hq : fn_sum (s_q b w ct) (r_lst b 0 (ct 0)) < 2 ^ 63 := by
    have h := fn_sum_lt (f := s_q b w ct) (n := r_lst b 0 (ct 0)) (m := 2 ^ 31) (fun i hi => Nat.le_of_lt (r0.2.2 i hi).1)
    have h' : r_lst b 0 (ct 0) * 2 ^ 31 ≤ 1200 * 2 ^ 31 := Nat.mul_le_mul_right _ hle0
    omega
  refine t_62 fun J hJ => b_62_0 hJ (zk_54 hz) (M_manyOf (k := 2) hz hf ht3 ht (by decide) r2.1.1 (b_62_6 hJ (zk_54 hz) (M_manyOf (k := 3) hz hf ht3 ht (by decide) r3.1.1 (b_62_13 hJ ?_))))
  -- the chunks' samples
  have sums : ∀ (f : Int32) (w3 w5 w6 w7 : Option Value), fn_sum (s_q b w ct) (r_lst b 0 (ct 0)) = s_n b ct → s_n b ct ≤ 16 → s_c b ct ≤ 16 → (r_lst b 1 (ct 1) = 0 → s_c b ct = 0) → (f = 0 ∨ f = 1) → (f = 1 ↔ ((∀ i, i < s_n b ct → s_S b w ct i ≤ 8) ∧ (∀ e, e < r_lst b 1 (ct 1) → s_F b w ct e ≤ s_c b ct))) → ∀ (m c : Nat) (w10 : Option Value), m + c = s_c b ct → J 199 [some (.ref 54), some (.int (nI t)), some (.long (lN (s_n b ct))), w3, some (.long (lN (s_c b ct))), w5, w6, w7, some (.int f), some (.long (lN (fn_sum (s_pk b w ct) c))), w10, some (.int (nI (c + 1)))] [] Z I G (0, 0) := by
    intro f w3 w5 w6 w7 a1 a2 a3 a4 f01 hff m
    have hpk : fn_sum (s_pk b w ct) (s_c b ct) < 2 ^ 63 := by
      have h := fn_sum_lt (f := s_pk b w ct) (n := s_c b ct) (m := 2 ^ 31) (fun i hi => s_pc_le hr _ _ (Nat.le_refl _))
      have h' : s_c b ct * 2 ^ 31 ≤ 16 * 2 ^ 31 := Nat.mul_le_mul_right _ a3
      omega
    induction m with
    | zero =>
      intro c w10 hc
      have hc : c = s_c b ct := by omega
      subst hc
      have hst : lN (s_c b ct) < Int32.toInt64 (nI (s_c b ct + 1)) := by rw [nI_l (by omega), l_lt (by omega) (by omega)]; omega
      refine b_62_199 hJ (fun _ z => h0 (fun y => ?_)) (fun _ z y => h0 (fun x => y ?_)) (fun _ z y => h1 ?_) (zk_54 hz) (fun z => absurd hst z)
      · have := hff.mpr ⟨y.2.2.2.2.1, y.2.2.2.2.2.1⟩
        rw [z] at this
        exact absurd this (by decide)
      · rw [x.2.2.2.2.2.2]
      · rw [l_eq hpk (by omega)] at y
        have := hff.mp (f01.resolve_left z)
        exact ⟨a1, a2, a3, a4, this.1, this.2, y⟩
    | succ m ih =>
      intro c w10 hc
      have nst : ¬ lN (s_c b ct) < Int32.toInt64 (nI (c + 1)) := by rw [nI_l (by omega), l_lt (by omega) (by omega)]; omega
      refine b_62_199 hJ (fun z => absurd z nst) (fun z => absurd z nst) (fun z => absurd z nst) (zk_54 hz) (fun _ => ?_)
      refine M_perChunk hz hf ht3 ht hr (by omega) (b_62_217 hJ ?_)
      rw [lN_add, nI_1]
      exact ih (c + 1) _ (by omega)
  -- the entries of stsc
  have ents : ∀ (w3 w5 w6 w10 w11 : Option Value), fn_sum (s_q b w ct) (r_lst b 0 (ct 0)) = s_n b ct → s_n b ct ≤ 16 → s_c b ct ≤ 16 → (r_lst b 1 (ct 1) = 0 → s_c b ct = 0) → ∀ (m e : Nat) (f : Int32) (w7 : Option Value), m + e = r_lst b 1 (ct 1) → (f = 0 ∨ f = 1) → (f = 1 ↔ ((∀ i, i < s_n b ct → s_S b w ct i ≤ 8) ∧ (∀ i, i < e → s_F b w ct i ≤ s_c b ct))) → J 147 [some (.ref 54), some (.int (nI t)), some (.long (lN (s_n b ct))), w3, some (.long (lN (s_c b ct))), w5, w6, w7, some (.int f), some (.int (nI e)), w10, w11] [] Z I G (0, 0) := by
    intro w3 w5 w6 w10 w11 a1 a2 a3 a4 m
    induction m with
    | zero =>
      intro e f w7 he f01 hff
      have he : e = r_lst b 1 (ct 1) := by omega
      subst he
      have hst : lN (r_lst b 1 (ct 1)) ≤ Int32.toInt64 (nI (r_lst b 1 (ct 1))) := by rw [nI_l (by omega), l_le (by omega) (by omega)]; omega
      refine b_62_147 hJ (zk_54 hz) (M_entriesOf (k := 1) hz hf ht3 ht (by decide) r1.1.1 (b_62_156 hJ (fun _ => ?_) (fun z => absurd hst z) (zk_54 hz) (fun z => absurd hst z)))
      exact sums f _ _ _ _ a1 a2 a3 a4 f01 hff (s_c b ct) 0 _ (Nat.add_zero _)
    | succ m ih =>
      intro e f w7 he f01 hff
      have bF : s_F b w ct e < 4294967296 := r_en_lt4 hf.cl tk1.2.2.2.1 tk1.2.2.2.2 r1.1 (by decide) (show e < r_lst b 1 (ct 1) by omega) (r_col_0 (k := 1) (w := w))
      have nst : ¬ lN (r_lst b 1 (ct 1)) ≤ Int32.toInt64 (nI e) := by rw [nI_l (by omega), l_le (by omega) (by omega)]; omega
      refine b_62_147 hJ (zk_54 hz) (M_entriesOf (k := 1) hz hf ht3 ht (by decide) r1.1.1 (b_62_156 hJ (fun z => absurd z nst) (fun _ z => ?_) (zk_54 hz) (fun _ z => ?_)))
      · rw [nI_1]
        refine ih (e + 1) 0 _ (by omega) (Or.inl rfl) ⟨fun x => absurd x (by decide), fun x => ?_⟩
        have := hff.mpr ⟨x.1, fun i hi => x.2 i (by omega)⟩
        rw [z] at this
        exact absurd this (by decide)
      · have hold := hff.mp (f01.resolve_left z)
        refine M_entry (k := 1) (j := 0) hz hf ht3 ht (by decide) r1.1 (by omega) r_col_0 (b_62_174 hJ (fun y => ?_) (fun y => ?_))
        · rw [show r_en b 1 w (ct 1) e 0 = s_F b w ct e from rfl, l_lt (by omega) (by omega)] at y
          rw [nI_1]
          refine ih (e + 1) 0 _ (by omega) (Or.inl rfl) ⟨fun x => absurd x (by decide), fun x => ?_⟩
          have := x.2 e (by omega)
          omega
        · rw [show r_en b 1 w (ct 1) e 0 = s_F b w ct e from rfl, l_lt (by omega) (by omega)] at y
          rw [nI_1]
          refine ih (e + 1) 1 _ (by omega) (Or.inr rfl) ⟨fun _ => ⟨hold.1, fun i hi => ?_⟩, fun _ => rfl⟩
          by_cases q : i = e
          · rw [q]; omega
          · exact hold.2 i (by omega)
  -- the sizes
  have sizes : ∀ (w3 w5 w6 w7 w10 w11 : Option Value), fn_sum (s_q b w ct) (r_lst b 0 (ct 0)) = s_n b ct → s_n b ct ≤ 16 → s_c b ct ≤ 16 → (r_lst b 1 (ct 1) = 0 → s_c b ct = 0) → J 104 [some (.ref 54), some (.int (nI t)), some (.long (lN (s_n b ct))), w3, some (.long (lN (s_c b ct))), w5, w6, w7, some (.int 1), some (.int 0), w10, w11] [] Z I G (0, 0) := by
    intro w3 w5 w6 w7 w10 w11 a1 a2 a3 a4
    have key : ∀ (m i : Nat) (f : Int32) (w7 : Option Value), m + i = s_n b ct → (f = 0 ∨ f = 1) → (f = 1 ↔ (∀ j, j < i → s_S b w ct j ≤ 8)) → J 104 [some (.ref 54), some (.int (nI t)), some (.long (lN (s_n b ct))), w3, some (.long (lN (s_c b ct))), w5, w6, w7, some (.int f), some (.int (nI i)), w10, w11] [] Z I G (0, 0) := by
      intro m
      induction m with
      | zero =>
        intro i f w7 hi f01 hff
        have hi : i = s_n b ct := by omega
        subst hi
        have hst : lN (s_n b ct) ≤ Int32.toInt64 (nI (s_n b ct)) := by rw [nI_l (by omega), l_le (by omega) (by omega)]; omega
        refine b_62_104 hJ (fun _ => ?_) (fun z => absurd hst z) (zk_54 hz) (fun z => absurd hst z)
        exact ents _ _ _ _ _ a1 a2 a3 a4 (r_lst b 1 (ct 1)) 0 f _ (Nat.add_zero _) f01 ⟨fun x => ⟨hff.mp x, fun i hi => absurd hi (Nat.not_lt_zero _)⟩, fun x => hff.mpr x.1⟩
      | succ m ih =>
        intro i f w7 hi f01 hff
        have hS := s_S_lt hf ht hr (show i < s_n b ct by omega)
        have nst : ¬ lN (s_n b ct) ≤ Int32.toInt64 (nI i) := by rw [nI_l (by omega), l_le (by omega) (by omega)]; omega
        refine b_62_104 hJ (fun z => absurd z nst) (fun _ z => ?_) (zk_54 hz) (fun _ z => ?_)
        · rw [nI_1]
          refine ih (i + 1) 0 _ (by omega) (Or.inl rfl) ⟨fun x => absurd x (by decide), fun x => ?_⟩
          have := hff.mpr (fun j hj => x j (by omega))
          rw [z] at this
          exact absurd this (by decide)
        · have hold := hff.mp (f01.resolve_left z)
          refine M_sizeOf hz hf ht3 ht hr (by omega) (b_62_124 hJ (fun y => ?_) (fun y => ?_))
          · rw [show (9 : Int64) = lN 9 from rfl, l_le (by decide) (by omega)] at y
            rw [nI_1]
            refine ih (i + 1) 0 _ (by omega) (Or.inl rfl) ⟨fun x => absurd x (by decide), fun x => ?_⟩
            have := x i (by omega)
            omega
          · rw [show (9 : Int64) = lN 9 from rfl, l_le (by decide) (by omega)] at y
            rw [nI_1]
            refine ih (i + 1) 1 _ (by omega) (Or.inr rfl) ⟨fun _ j hj => ?_, fun _ => rfl⟩
            by_cases q : j = i
            · rw [q]; omega
            · exact hold j (by omega)
    exact key (s_n b ct) 0 1 _ (Nat.add_zero _) (Or.inr rfl) ⟨fun _ j hj => absurd hj (Nat.not_lt_zero _), fun _ => rfl⟩
  -- the entries of stts
  have e16 : (16 : Int64) = lN 16 := rfl
  have key : ∀ (m e : Nat) (w3 w5 w7 w9 w10 w11 : Option Value), m + e = r_lst b 0 (ct 0) → J 21 [some (.ref 54), some (.int (nI t)), some (.long (lN (s_n b ct))), w3, some (.long (lN (s_c b ct))), w5, some (.long (lN (fn_sum (s_q b w ct) e))), w7, some (.int (nI e)), w9, w10, w11] [] Z I G (0, 0) := by
    intro m
    induction m with
    | zero =>
      intro e w3 w5 w7 w9 w10 w11 he
      have he : e = r_lst b 0 (ct 0) := by omega
      subst he
      have hst : lN (r_lst b 0 (ct 0)) ≤ Int32.toInt64 (nI (r_lst b 0 (ct 0))) := by rw [nI_l (by omega), l_le (by omega) (by omega)]; omega
      refine b_62_21 hJ (zk_54 hz) (M_entriesOf (k := 0) hz hf ht3 ht (by decide) r0.1.1 (b_62_30 hJ (fun _ z => h0 (fun y => z (by rw [y.1]))) (fun _ _ z => h0 (fun y => ?_)) (fun _ _ _ z => h0 (fun y => ?_)) (fun _ a z1 z2 z3 => ?_) (zk_54 hz) (fun _ a z1 z2 z3 => ?_) (fun z => absurd hst z)))
      · rw [e16, l_lt (by decide) (by omega)] at z
        have := y.2.1
        omega
      · rw [e16, l_lt (by decide) (by omega)] at z
        have := y.2.2.1
        omega
      · rw [l_eq hq (by omega)] at a
        rw [e16, l_lt (by decide) (by omega)] at z1 z2
        rw [l_pos (by omega)] at z3
        exact sizes _ _ _ _ _ _ a (by omega) (by omega) (fun _ => z3)
      · rw [l_eq hq (by omega)] at a
        rw [e16, l_lt (by decide) (by omega)] at z1 z2
        rw [l_pos (by omega)] at z3
        refine M_entriesOf (k := 1) hz hf ht3 ht (by decide) r1.1.1 (b_62_91 hJ (fun y => sizes _ _ _ _ _ _ a (by omega) (by omega) (fun x => absurd (by rw [x]; rfl) y)) (fun y => h0 (fun x => z3 (x.2.2.2.1 ?_))))
        rw [show (0 : Int64) = lN 0 from rfl, l_eq (by omega) (by decide)] at y
        exact y
    | succ m ih =>
      intro e w3 w5 w7 w9 w10 w11 he
      have nst : ¬ lN (r_lst b 0 (ct 0)) ≤ Int32.toInt64 (nI e) := by rw [nI_l (by omega), l_le (by omega) (by omega)]; omega
      refine b_62_21 hJ (zk_54 hz) (M_entriesOf (k := 0) hz hf ht3 ht (by decide) r0.1.1 (b_62_30 hJ (fun z => absurd z nst) (fun z => absurd z nst) (fun z => absurd z nst) (fun z => absurd z nst) (zk_54 hz) (fun z => absurd z nst) (fun _ => ?_)))
      refine M_entry (k := 0) (j := 0) hz hf ht3 ht (by decide) r0.1 (by omega) r_col_0 (b_62_45 hJ ?_)
      rw [show r_en b 0 w (ct 0) e 0 = s_q b w ct e from rfl, lN_add, nI_1]
      exact ih (e + 1) _ _ _ _ _ _ (by omega)
  exact key (r_lst b 0 (ct 0)) 0 _ _ _ _ _ _ (Nat.add_zero _)
end MG
