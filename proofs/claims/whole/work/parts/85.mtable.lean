/-! read: the reference's tables -/
def tkM (I : aj_I) (t : Nat) (w : Bool) (bx ct st : Nat → Nat) (len : Nat) : Prop := I 66 t = (if w then 1 else 0) ∧ ∀ k, k < 4 → I 63 (4 * t + k) = nI (bx k) ∧ I 64 (4 * t + k) = nI (ct k) ∧ I 65 (4 * t + k) = nI (st k) ∧ ct k ≤ st k ∧ st k ≤ len
theorem tkM.same {I I' : aj_I} {t : Nat} {w : Bool} {bx ct st : Nat → Nat} {len : Nat} (h : tkM I t w bx ct st len) (h63 : I' 63 = I 63) (h64 : I' 64 = I 64) (h65 : I' 65 = I 65) (h66 : I' 66 = I 66) : tkM I' t w bx ct st len := by
  unfold tkM at h ⊢
  rw [h63, h64, h65, h66]
  exact h
theorem fm_tk {I : aj_I} {s : r_ps} {len : Nat} (hM : fmT I s) (hB : r_B len 0 s) {t : Nat} (ht : t < ps_fd s) : tkM I t (ps_wd s t) (ps_bx s t) (ps_ct s t) (ps_st s t) len := by
  have full := (hB.2.2.2.2.2.1 (by decide) t ht).2
  have one : ∀ k, k < 4 → ∃ x, ps_tb s t k = some x := fun k hk => by
    cases e : ps_tb s t k with
    | none => exact absurd e (full k hk)
    | some x => exact ⟨x, rfl⟩
  refine ⟨?_, fun k hk => ?_⟩
  · obtain ⟨x, hx⟩ := one 3 (by decide)
    exact (((hM.2.2.2.2 t ht).2 3 (by decide)).2 x hx).2.2 rfl
  · obtain ⟨x, hx⟩ := one k hk
    have h1 := ((hM.2.2.2.2 t ht).2 k hk).1
    have h2 := ((hM.2.2.2.2 t ht).2 k hk).2 x hx
    have h3 := (hB.2.2.2.1 t ht).2 k hk x hx
    unfold ps_bx ps_ct ps_st
    rw [hx] at h1 ⊢
    exact ⟨h1, h2.1, h2.2.1, h3.2.1, h3.2.2⟩
section MF1
variable {Z : aj_Z} {I : aj_I} {G : aj_G} {Q : aj_Q} {len : Nat} {b : Nat → Nat} {t k : Nat} {w : Bool} {bx ct st : Nat → Nat} {d mc ms : Nat}
theorem k_eq {k : Nat} (hk : k < 4) {j : Nat} (hj : j < 2 ^ 31) : nI k = nI j ↔ k = j := nI_eq (by omega) hj
theorem M_entrySize (hz : zAll Z) (ht3 : t < 3) (ht : tkM I t w bx ct st len) (hk : k < 4) (hQ : Q (some (.int (nI (r_ew k w)))) Z I G) : aj_T (d + 1) mc ms 50 [.ref 54, .int (nI t), .int (nI k)] Z I G Q := by
  have k0 : nI k = 0 ↔ k = 0 := k_eq hk (j := 0) (by decide)
  have k1 : nI k = 1 ↔ k = 1 := k_eq hk (j := 1) (by decide)
  have k2 : nI k = 2 ↔ k = 2 := k_eq hk (j := 2) (by decide)
  have k3 : ¬ nI k = 0 → ¬ nI k = 1 → ¬ nI k = 2 → k = 3 := fun a0 a1 a2 => by
    have b0 : k ≠ 0 := fun z => a0 (k0.mpr z)
    have b1 : k ≠ 1 := fun z => a1 (k1.mpr z)
    have b2 : k ≠ 2 := fun z => a2 (k2.mpr z)
    omega
  have ew : I 66 (nI t).toNatClampNeg = if w then 1 else 0 := by rw [nI_clamp (by omega)]; exact ht.1
  refine t_50 fun J hJ => b_50_0 hJ (zk_54 hz) (zr_54_20 hz) (zk_66 hz) (fun _ _ _ => vp_in_nI (by omega) (by decide)) (fun a0 a1 a2 z => ?_) (fun a0 a1 a2 z => ?_) (fun _ _ a => ?_) (fun _ a => ?_) (fun a => ?_)
  · have := k3 a0 a1 a2
    subst this
    rw [ew] at z
    cases w
    · exact hQ
    · exact absurd z (by decide)
  · have := k3 a0 a1 a2
    subst this
    rw [ew] at z
    cases w
    · exact absurd rfl z
    · exact hQ
  · have := k2.mp a
    subst this
    exact hQ
  · have := k1.mp a
    subst this
    exact hQ
  · have := k0.mp a
    subst this
    exact hQ
theorem M_headSize (hk : k < 4) (hQ : Q (some (.int (nI (r_hw k)))) Z I G) : aj_T (d + 1) mc ms 51 [.ref 54, .int (nI k)] Z I G Q := by
  have k2 : nI k = 2 ↔ k = 2 := k_eq hk (j := 2) (by decide)
  unfold r_hw at hQ
  refine t_51 fun J hJ => b_51_0 hJ (fun a => ?_) (fun a => ?_)
  · rw [if_neg (fun z => a (k2.mpr z))] at hQ; exact hQ
  · rw [if_pos (k2.mp a)] at hQ; exact hQ
theorem M_manyOf (hz : zAll Z) (hf : mF I len b) (ht3 : t < 3) (ht : tkM I t w bx ct st len) (hk : k < 4) (hh : r_hw k ≤ st k - ct k) (hQ : Q (some (.long (lN (r_told b k (ct k))))) Z I G) : aj_T (d + 2) mc ms 52 [.ref 54, .int (nI t), .int (nI k)] Z I G Q := by
  have hw := r_hw_le k
  have tk := ht.2 k hk
  have hcs := tk.2.2.2.1
  have hst := tk.2.2.2.2
  refine t_52 fun J hJ => b_52_0 hJ (zk_54 hz) (zr_54_18 hz) (zk_64 hz) (by rw [sm_4]; exact vp_in_nI (by omega) (by decide)) ?_
  rw [sm_4, nI_clamp (show 4 * t + k < 2 ^ 31 by omega), tk.2.1]
  refine M_headSize hk (b_52_16 hJ (zk_54 hz) ?_)
  rw [nI_add, show (4 : Int32) = nI 4 from rfl, pk_sub (by omega)]
  exact M_numberAt hz hf (by omega) (by decide) (b_52_23 hJ hQ)
theorem M_entriesOf (hz : zAll Z) (hf : mF I len b) (ht3 : t < 3) (ht : tkM I t w bx ct st len) (hk : k < 4) (hh : r_hw k ≤ st k - ct k) (hQ : Q (some (.long (lN (r_lst b k (ct k))))) Z I G) : aj_T (d + 3) mc ms 53 [.ref 54, .int (nI t), .int (nI k)] Z I G Q := by
  have k2 : nI k = 2 ↔ k = 2 := k_eq hk (j := 2) (by decide)
  have hw := r_hw_le k
  have tk := ht.2 k hk
  have hcs := tk.2.2.2.1
  have hst := tk.2.2.2.2
  refine t_53 fun J hJ => b_53_0 hJ (zk_54 hz) (fun a => ?_) (zr_54_18 hz) (zk_64 hz) (fun _ => by rw [sm_4]; exact vp_in_nI (by omega) (by decide)) (fun a => ?_)
  · have a : k ≠ 2 := fun z => a (k2.mpr z)
    refine M_manyOf hz hf ht3 ht hk hh (b_53_37 hJ ?_)
    have e : r_lst b k (ct k) = r_told b k (ct k) := by unfold r_lst r_sfa; rw [if_neg a, if_pos rfl]
    rw [e] at hQ
    exact hQ
  · have a := k2.mp a
    subst a
    have es : r_sfa b 2 (ct 2) = fn_nb b (ct 2 + 4) 4 := if_pos rfl
    have b4 := hf.cl.nb4 (p := ct 2 + 4) (by omega)
    rw [sm_4, nI_clamp (show 4 * t + 2 < 2 ^ 31 by omega), tk.2.1, show nI (ct 2) + 4 = nI (ct 2 + 4) from nI_add _ 4]
    refine M_numberAt (w := 4) hz hf (by omega) (by decide) (b_53_22 hJ (zk_54 hz) (fun z => ?_) (fun z => ?_))
    · rw [show (0 : Int64) = lN 0 from rfl, l_eq (by omega) (by decide)] at z
      refine M_manyOf hz hf ht3 ht hk hh (b_53_37 hJ ?_)
      have e : r_lst b 2 (ct 2) = r_told b 2 (ct 2) := by unfold r_lst; rw [es, if_pos z]
      rw [e] at hQ
      exact hQ
    · have z : fn_nb b (ct 2 + 4) 4 ≠ 0 := fun y => z (by rw [y]; rfl)
      have e : r_lst b 2 (ct 2) = 0 := by unfold r_lst; rw [es, if_neg z]
      rw [e] at hQ
      exact b_53_37 hJ hQ
theorem r_lst_lt {I : aj_I} (hf : mF I len b) {ct st : Nat} (hst : st ≤ len) (hh : r_hw k ≤ st - ct) : r_lst b k ct < 4294967296 := by
  unfold r_lst
  split
  · exact r_told_lt hf.cl hst hh
  · decide
theorem M_hasLength (hz : zAll Z) (hf : mF I len b) (ht3 : t < 3) (ht : tkM I t w bx ct st len) (hk : k < 4) (h1 : r_len b k w (ct k) (st k) → Q (some (.int 1)) Z I G) (h0 : ¬ r_len b k w (ct k) (st k) → Q (some (.int 0)) Z I G) : aj_T (d + 4) mc ms 54 [.ref 54, .int (nI t), .int (nI k)] Z I G Q := by
  have hlen := hf.2.1
  have hw := r_hw_le k
  have hew := r_ew_le k w
  have tk := ht.2 k hk
  have hcs := tk.2.2.2.1
  have hst := tk.2.2.2.2
  have vi : vp_in (4 * nI t + nI k) 12 := by rw [sm_4]; exact vp_in_nI (by omega) (by decide)
  refine t_54 fun J hJ => b_54_0 hJ (zk_54 hz) (zr_54_19 hz) (zk_65 hz) vi (zr_54_18 hz) (zk_64 hz) vi ?_
  rw [sm_4, nI_clamp (show 4 * t + k < 2 ^ 31 by omega), tk.2.1, tk.2.2.1, pk_sub tk.2.2.2.1]
  refine M_headSize hk (b_54_28 hJ (fun z => h0 (fun y => ?_)) (zk_54 hz) (fun z => ?_))
  · have z := (nI_ltI (by omega) (by omega)).mp z
    have := y.1
    omega
  · have z : r_hw k ≤ st k - ct k := by
      rcases Nat.lt_or_ge (st k - ct k) (r_hw k) with q | q
      · exact absurd (nI_lt q (by omega)) z
      · exact q
    have hlt := r_lst_lt hf tk.2.2.2.2 z
    have hmul : r_lst b k (ct k) * r_ew k w ≤ 4294967296 * 12 := Nat.mul_le_mul (by omega) hew.2
    refine M_entriesOf hz hf ht3 ht hk z (b_54_37 hJ (zk_54 hz) (M_entrySize hz ht3 ht hk (b_54_43 hJ (zk_54 hz) (M_headSize hk (b_54_51 hJ (fun y => h0 (fun x => y ?_)) (fun y => h1 ⟨z, ?_⟩))))))
    · rw [pk_sub z, nI_l (by omega), nI_l (by omega), lN_mul]
      have := x.2
      congr 1
      omega
    · rw [pk_sub z, nI_l (by omega), nI_l (by omega), lN_mul, l_eq (by omega) (by omega)] at y
      omega
theorem M_entry (hz : zAll Z) (hf : mF I len b) (ht3 : t < 3) (ht : tkM I t w bx ct st len) (hk : k < 4) (hl : r_len b k w (ct k) (st k)) {e j : Nat} (he : e < r_lst b k (ct k)) (hj : r_col k w j) (hQ : Q (some (.long (lN (r_en b k w (ct k) e j)))) Z I G) : aj_T (d + 2) mc ms 55 [.ref 54, .int (nI t), .int (nI k), .int (nI e), .int (nI j)] Z I G Q := by
  have k3 : nI k = 3 ↔ k = 3 := k_eq hk (j := 3) (by decide)
  have tk := ht.2 k hk
  have hin := r_in tk.2.2.2.1 tk.2.2.2.2 hl he hj
  have hnw := r_nw_le k w
  have ew : I 66 (nI t).toNatClampNeg = if w then 1 else 0 := by rw [nI_clamp (by omega)]; exact ht.1
  unfold r_en at hQ
  refine t_55 fun J hJ => ?_
  have go : ∀ w5 : Option Value, J 20 [some (.ref 54), some (.int (nI t)), some (.int (nI k)), some (.int (nI e)), some (.int (nI j)), w5] [.int (nI (r_nw k w))] Z I G (0, 0) := by
    intro w5
    refine b_55_20 hJ (zk_54 hz) (zr_54_18 hz) (zk_64 hz) (by rw [sm_4]; exact vp_in_nI (by omega) (by decide)) ?_
    rw [sm_4, nI_clamp (show 4 * t + k < 2 ^ 31 by omega), tk.2.1]
    refine M_headSize hk (b_55_38 hJ (zk_54 hz) (M_entrySize hz ht3 ht hk (b_55_46 hJ (zk_54 hz) ?_)))
    rw [pk_mul, show (4 : Int32) * nI j = nI (4 * j) from pk_mul 4 j, nI_add, nI_add, nI_add]
    exact M_numberAt hz hf hin hnw.1 (b_55_58 hJ hQ)
  refine b_55_0 hJ (fun a => b_55_19 hJ ?_) (zk_54 hz) (zr_54_20 hz) (zk_66 hz) (fun _ => vp_in_nI (by omega) (by decide)) (fun a z => b_55_19 hJ ?_) (fun a z => ?_)
  · have en : r_nw k w = 4 := if_neg (fun q => a (k3.mpr q.1))
    have := go none
    rw [en] at this
    exact this
  · rw [ew] at z
    have en : r_nw k w = 4 := if_neg (fun q => by rw [q.2] at z; exact absurd z (by decide))
    have := go none
    rw [en] at this
    exact this
  · rw [ew] at z
    have en : r_nw k w = 8 := if_pos ⟨k3.mp a, by cases w; exact absurd rfl z; rfl⟩
    have := go none
    rw [en] at this
    exact this
theorem M_isRight {n : Nat} (hn : n < 2 ^ 64) (h1 : n < 2 ^ 31 → Q (some (.int 1)) Z I G) (h0 : ¬ n < 2 ^ 31 → Q (some (.int 0)) Z I G) : aj_T (d + 1) mc ms 56 [.long (lN n)] Z I G Q := by
  have e0 : (0 : Int64) = lN 0 := rfl
  have eM : (2147483647 : Int64) = lN 2147483647 := rfl
  rcases Nat.lt_or_ge n (2 ^ 63) with h | h
  · refine t_56 fun J hJ => b_56_0 hJ (fun q => ?_) (fun _ q => h0 ?_) (fun _ q => h1 ?_)
    · rw [e0, l_lt h (by decide)] at q; omega
    · rw [eM, l_lt (by decide) h] at q; omega
    · rw [eM, l_lt (by decide) h] at q; omega
  · have hneg := l_neg h hn
    exact t_56 fun J hJ => b_56_0 hJ (fun q => h0 (by omega)) (fun q => absurd hneg q) (fun q => absurd hneg q)
theorem l_pos {n : Nat} (h : n < 2 ^ 63) : lN n ≤ 0 ↔ n = 0 := by
  rw [show (0 : Int64) = lN 0 from rfl, l_le h (by decide)]; omega
theorem M_isEntryRight (hz : zAll Z) (hf : mF I len b) (ht3 : t < 3) (ht : tkM I t w bx ct st len) (hk : k < 4) (hl : r_len b k w (ct k) (st k)) {e : Nat} (he : e < r_lst b k (ct k)) (h1 : r_ent b k w (ct k) e → Q (some (.int 1)) Z I G) (h0 : ¬ r_ent b k w (ct k) e → Q (some (.int 0)) Z I G) : aj_T (d + 3) mc ms 57 [.ref 54, .int (nI t), .int (nI k), .int (nI e)] Z I G Q := by
  have tk := ht.2 k hk
  have hcs := tk.2.2.2.1
  have hst := tk.2.2.2.2
  have hlen := hf.2.1
  have hle := r_lst_le hf.cl hst hl
  have b0 := r_en_lt hf.cl hcs hst hl he (r_col_0 (k := k) (w := w))
  have kk0 : nI k = 0 ↔ k = 0 := k_eq hk (j := 0) (by decide)
  have kk1 : nI k = 1 ↔ k = 1 := k_eq hk (j := 1) (by decide)
  have nar1 : narrow .boolean (.int 1) = .int 1 := rfl
  have nar0 : narrow .boolean (.int 0) = .int 0 := rfl
  refine t_57 fun J hJ => b_57_0 hJ (zk_54 hz) (M_entry (j := 0) hz hf ht3 ht hk hl he r_col_0 ?_)
  by_cases q0 : k = 0
  · subst q0
    have b1 := r_en_lt4 hf.cl hcs hst hl (by decide) he (r_col_0 (k := 0) (w := w))
    have b2 := r_en_lt hf.cl hcs hst hl he (r_col_01 (w := w))
    refine b_57_8 hJ (fun a => absurd rfl a) (zk_54 hz) (fun a => absurd rfl a) (fun a => absurd rfl a) (fun a => absurd rfl a) (fun _ => ?_)
    refine M_isRight b0 (fun a => b_57_19 hJ (fun z => absurd z (by decide)) (fun _ z => h0 (fun y => ?_)) (zk_54 hz) (fun _ z => ?_)) (fun a => b_57_19 hJ (fun _ => h0 (fun z => a z.1)) (fun z => absurd rfl z) (zk_54 hz) (fun z => absurd rfl z))
    · rw [l_pos (by omega)] at z
      have := (y.2.1 rfl).1
      omega
    · rw [l_pos (by omega)] at z
      exact M_entry (j := 1) hz hf ht3 ht hk hl he r_col_01 (b_57_37 hJ (M_isRight b2 (fun c => b_57_40 hJ (fun z => absurd z (by decide)) (fun _ => h1 ⟨a, fun _ => ⟨by omega, c⟩, fun y => absurd y (by decide)⟩)) (fun c => b_57_40 hJ (fun _ => h0 (fun y => c (y.2.1 rfl).2)) (fun z => absurd rfl z))))
  · by_cases q1 : k = 1
    · subst q1
      have b1 := r_en_lt4 hf.cl hcs hst hl (by decide) he (r_col_0 (k := 1) (w := w))
      have b2 := r_en_lt4 hf.cl hcs hst hl (by decide) he (r_col_11 (w := w))
      have b3 := r_en_lt4 hf.cl hcs hst hl (by decide) he (r_col_12 (w := w))
      -- behind 'first'
      have tail : ∀ (f : Int32) (w5 w6 w7 w8 : Option Value), (f = 0 ∨ f = 1) → (f = 1 ↔ (if e = 0 then r_en b 1 w (ct 1) e 0 = 1 else r_en b 1 w (ct 1) (e - 1) 0 < r_en b 1 w (ct 1) e 0)) → J 94 [some (.ref 54), some (.int (nI t)), some (.int (nI 1)), some (.int (nI e)), some (.long (lN (r_en b 1 w (ct 1) e 0))), w5, w6, w7, w8] [.int f] Z I G (0, 0) := by
        intro f w5 w6 w7 w8 hf01 hff
        refine b_57_94 hJ (zk_54 hz) (M_entry (j := 1) hz hf ht3 ht hk hl he r_col_11 (b_57_104 hJ (M_isRight b0 (fun a => b_57_111 hJ (fun z => absurd z (by decide)) (fun _ z => h0 (fun y => ?_)) (fun _ z => ?_)) (fun a => b_57_111 hJ (fun _ => h0 (fun z => a z.1)) (fun z => absurd rfl z) (fun z => absurd rfl z)))))
        · have := hff.mpr (y.2.2 rfl).1
          rw [z] at this
          exact absurd this (by decide)
        · have hfirst := hff.mp (hf01.resolve_left z)
          refine M_isRight (by omega) (fun c => b_57_124 hJ (fun z => absurd z (by decide)) (fun _ z => h0 (fun y => ?_)) (zk_54 hz) (fun _ z => ?_)) (fun c => b_57_124 hJ (fun _ => h0 (fun y => c (y.2.2 rfl).2.2.1)) (fun z => absurd rfl z) (zk_54 hz) (fun z => absurd rfl z))
          · rw [l_pos (by omega)] at z
            have := (y.2.2 rfl).2.1
            omega
          · rw [l_pos (by omega)] at z
            refine M_entry (j := 2) hz hf ht3 ht hk hl he r_col_12 (b_57_142 hJ (fun y => h0 (fun x => y (by rw [(x.2.2 rfl).2.2.2]; rfl))) (fun y => h1 ⟨a, fun x => absurd x (by decide), fun _ => ⟨hfirst, by omega, c, ?_⟩⟩))
            rw [show (1 : Int64) = lN 1 from rfl, l_eq (by omega) (by decide)] at y
            exact y
      refine b_57_8 hJ (fun _ a => absurd rfl a) (zk_54 hz) (fun _ _ z => ?_) (fun _ _ z y => tail 0 _ _ _ _ (Or.inl rfl) ?_) (fun _ _ z y => tail 1 _ _ _ _ (Or.inr rfl) ?_) (fun a => absurd (kk0.mp a) (by decide))
      · have he0 : e ≠ 0 := fun y => z (by rw [y]; rfl)
        have b4 := r_en_lt4 hf.cl hcs hst hl (by decide) (show e - 1 < r_lst b 1 (ct 1) by omega) (r_col_0 (k := 1) (w := w))
        rw [show (1 : Int32) = nI 1 from rfl, pk_sub (by omega)]
        refine M_entry (j := 0) hz hf ht3 ht hk hl (show e - 1 < r_lst b 1 (ct 1) by omega) r_col_0 (b_57_85 hJ (fun y => tail 0 _ _ _ _ (Or.inl rfl) ?_) (fun y => tail 1 _ _ _ _ (Or.inr rfl) ?_))
        · rw [l_le (by omega) (by omega)] at y
          rw [if_neg he0]
          exact ⟨fun x => absurd x (by decide), fun x => absurd x (by omega)⟩
        · rw [l_le (by omega) (by omega)] at y
          rw [if_neg he0]
          exact ⟨fun _ => by omega, fun _ => rfl⟩
      · have he0 : e = 0 := (nI_eq (a := e) (b := 0) (by omega) (by decide)).mp z
        rw [if_pos he0]
        exact ⟨fun x => absurd x (by decide), fun x => absurd (by rw [x]; rfl) y⟩
      · have he0 : e = 0 := (nI_eq (a := e) (b := 0) (by omega) (by decide)).mp z
        rw [show (1 : Int64) = lN 1 from rfl, l_eq (by omega) (by decide)] at y
        rw [if_pos he0]
        exact ⟨fun _ => y, fun _ => rfl⟩
    · refine b_57_8 hJ (fun _ _ => ?_) (zk_54 hz) (fun _ a => absurd (kk1.mp a) q1) (fun _ a => absurd (kk1.mp a) q1) (fun _ a => absurd (kk1.mp a) q1) (fun a => absurd (kk0.mp a) q0)
      exact M_isRight b0 (fun a => b_57_158 hJ nar1 (h1 ⟨a, fun y => absurd y q0, fun y => absurd y q1⟩)) (fun a => b_57_158 hJ nar0 (h0 (fun z => a z.1)))
theorem M_areNumbersRight (hz : zAll Z) (hf : mF I len b) (ht3 : t < 3) (ht : tkM I t w bx ct st len) (hk : k < 4) (hl : r_len b k w (ct k) (st k)) (h1 : r_num b k w (ct k) → Q (some (.int 1)) Z I G) (h0 : ¬ r_num b k w (ct k) → Q (some (.int 0)) Z I G) : aj_T (d + 4) mc ms 58 [.ref 54, .int (nI t), .int (nI k)] Z I G Q := by
  have tk := ht.2 k hk
  have hcs := tk.2.2.2.1
  have hst := tk.2.2.2.2
  have hlen := hf.2.1
  have hw := r_hw_le k
  have hh := hl.1
  have hle := r_lst_le hf.cl hst hl
  have hs := r_sfa_lt hf.cl hst hl.1
  have htl := r_told_lt hf.cl hst hl.1
  have hz4 := hf.cl.nb4 (p := ct k) (by omega)
  have kk2 : nI k = 2 ↔ k = 2 := k_eq hk (j := 2) (by decide)
  have nar1 : narrow .boolean (.int 1) = .int 1 := rfl
  have nar0 : narrow .boolean (.int 0) = .int 0 := rfl
  refine t_58 fun J hJ => b_58_0 hJ (zk_54 hz) (zr_54_18 hz) (zk_64 hz) (by rw [sm_4]; exact vp_in_nI (by omega) (by decide)) ?_
  rw [sm_4, nI_clamp (show 4 * t + k < 2 ^ 31 by omega), tk.2.1]
  -- the head is wrong
  have no : ∀ w3 w5 w6 : Option Value, ¬ r_hd b k (ct k) → aj_T (d + 3) 0 0 53 [.ref 54, .int (nI t), .int (nI k)] Z I G (fun r Z1 I1 G1 => J 66 [some (.ref 54), some (.int (nI t)), some (.int (nI k)), w3, some (.int 0), w5, w6] (r.toList ++ []) Z1 I1 G1 (0, 0)) := by
    intro w3 w5 w6 hno
    refine M_entriesOf hz hf ht3 ht hk hl.1 (b_58_66 hJ ?_)
    rw [lN_i]
    exact b_58_72 hJ (fun _ => nar0) (fun _ => h0 (fun z => hno z.1)) (fun _ _ => nar0) (fun _ _ => h0 (fun z => hno z.1)) (zk_54 hz) (fun _ z => absurd rfl z)
  -- the head is right
  have yes : ∀ w3 w5 w6 : Option Value, r_hd b k (ct k) → aj_T (d + 3) 0 0 53 [.ref 54, .int (nI t), .int (nI k)] Z I G (fun r Z1 I1 G1 => J 66 [some (.ref 54), some (.int (nI t)), some (.int (nI k)), w3, some (.int 1), w5, w6] (r.toList ++ []) Z1 I1 G1 (0, 0)) := by
    intro w3 w5 w6 hhd
    refine M_entriesOf hz hf ht3 ht hk hl.1 (b_58_66 hJ ?_)
    rw [lN_i]
    have key : ∀ (m e : Nat) (w3 : Option Value), m + e = r_lst b k (ct k) → (∀ i, i < e → r_ent b k w (ct k) i) → J 72 [some (.ref 54), some (.int (nI t)), some (.int (nI k)), w3, some (.int 1), some (.int (nI (r_lst b k (ct k)))), some (.int (nI e))] [] Z I G (0, 0) := by
      intro m
      induction m with
      | zero =>
        intro e w3 he hall
        have hst : nI (r_lst b k (ct k)) ≤ nI e := nI_le (by omega) (by omega)
        exact b_58_72 hJ (fun _ => nar1) (fun _ => h1 ⟨hhd, fun i hi => hall i (by omega)⟩) (fun z => absurd hst z) (fun z => absurd hst z) (zk_54 hz) (fun z => absurd hst z)
      | succ m ih =>
        intro e w3 he hall
        have hnst : ¬ nI (r_lst b k (ct k)) ≤ nI e := nI_ge (by omega) (by omega)
        refine b_58_72 hJ (fun z => absurd z hnst) (fun z => absurd z hnst) (fun _ z => absurd z (by decide)) (fun _ z => absurd z (by decide)) (zk_54 hz) (fun _ _ => M_isEntryRight hz hf ht3 ht hk hl (by omega) (fun hr => b_58_92 hJ ?_) (fun hr => b_58_92 hJ ?_))
        · rw [nI_1]
          refine ih (e + 1) _ (by omega) (fun i hi => ?_)
          by_cases q : i = e
          · rw [q]; exact hr
          · exact hall i (by omega)
        · have hno : ¬ r_num b k w (ct k) := fun z => hr (z.2 e (by omega))
          exact b_58_72 hJ (fun _ => nar0) (fun _ => h0 hno) (fun _ _ => nar0) (fun _ _ => h0 hno) (zk_54 hz) (fun _ z => absurd rfl z)
    exact key (r_lst b k (ct k)) 0 _ (Nat.add_zero _) (fun i hi => absurd hi (Nat.not_lt_zero _))
  refine M_numberAt (w := 4) hz hf (by omega) (by decide) (b_58_17 hJ (zk_54 hz) (fun z => no _ _ _ (fun y => z (by rw [y.1]; rfl))) (fun z => ?_))
  rw [show (0 : Int64) = lN 0 from rfl, l_eq (by omega) (by decide)] at z
  refine M_manyOf hz hf ht3 ht hk hl.1 (b_58_28 hJ (M_isRight (by omega) (fun a => b_58_31 hJ (zk_54 hz) (fun y => absurd y (by decide)) (fun _ y => ?_) (fun _ y => ?_)) (fun a => b_58_31 hJ (zk_54 hz) (fun _ => no _ _ _ (fun y => a y.2.1)) (fun y => absurd rfl y) (fun y => absurd rfl y))))
  · have y : k ≠ 2 := fun x => y (kk2.mpr x)
    refine b_58_53 hJ (zk_54 hz) (yes _ _ _ ⟨z, a, ?_⟩)
    unfold r_sfa
    rw [if_neg y]; decide
  · have y := kk2.mp y
    subst y
    have es : r_sfa b 2 (ct 2) = fn_nb b (ct 2 + 4) 4 := if_pos rfl
    rw [show nI (ct 2) + 4 = nI (ct 2 + 4) from nI_add _ 4]
    have hw2 : r_hw 2 = 12 := rfl
    refine M_numberAt (w := 4) hz hf (by omega) (by decide) (b_58_47 hJ ?_)
    rw [← es]
    exact M_isRight (by omega) (fun c => b_58_50 hJ (zk_54 hz) (fun x => absurd x (by decide)) (fun _ => b_58_53 hJ (zk_54 hz) (yes _ _ _ ⟨z, a, c⟩))) (fun c => b_58_50 hJ (zk_54 hz) (fun _ => no _ _ _ (fun x => c x.2.2)) (fun x => absurd rfl x))
end MF1
