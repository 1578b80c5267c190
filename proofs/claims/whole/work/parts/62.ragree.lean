/-! read: do a track's tables agree -/
def s_n (b : Nat → Nat) (ct : Nat → Nat) : Nat := r_told b 2 (ct 2)
def s_c (b : Nat → Nat) (ct : Nat → Nat) : Nat := r_told b 3 (ct 3)
def s_q (b : Nat → Nat) (w : Bool) (ct : Nat → Nat) (e : Nat) : Nat := r_en b 0 w (ct 0) e 0
def s_v (b : Nat → Nat) (w : Bool) (ct : Nat → Nat) (e : Nat) : Nat := r_en b 0 w (ct 0) e 1
def s_F (b : Nat → Nat) (w : Bool) (ct : Nat → Nat) (e : Nat) : Nat := r_en b 1 w (ct 1) e 0
def s_P (b : Nat → Nat) (w : Bool) (ct : Nat → Nat) (e : Nat) : Nat := r_en b 1 w (ct 1) e 1
def s_S (b : Nat → Nat) (w : Bool) (ct : Nat → Nat) (i : Nat) : Nat := if r_sfa b 2 (ct 2) = 0 then r_en b 2 w (ct 2) i 0 else r_sfa b 2 (ct 2)
def s_L (b : Nat → Nat) (w : Bool) (ct : Nat → Nat) (c : Nat) : Nat := r_en b 3 w (ct 3) c 0
/-- how many samples chunk c (from 1 on) has, by the first m entries -/
def s_pc (F P : Nat → Nat) (c : Nat) : Nat → Nat
  | 0 => 0
  | e + 1 => if F e ≤ c then P e else s_pc F P c e
def s_pk (b : Nat → Nat) (w : Bool) (ct : Nat → Nat) (c : Nat) : Nat := s_pc (s_F b w ct) (s_P b w ct) (c + 1) (r_lst b 1 (ct 1))
def s_agr (b : Nat → Nat) (w : Bool) (ct : Nat → Nat) : Prop := fn_sum (s_q b w ct) (r_lst b 0 (ct 0)) = s_n b ct ∧ s_n b ct ≤ 16 ∧ s_c b ct ≤ 16 ∧ (r_lst b 1 (ct 1) = 0 → s_c b ct = 0) ∧ (∀ i, i < s_n b ct → s_S b w ct i ≤ 8) ∧ (∀ e, e < r_lst b 1 (ct 1) → s_F b w ct e ≤ s_c b ct) ∧ fn_sum (s_pk b w ct) (s_c b ct) = s_n b ct
def s_ok (b : Nat → Nat) (w : Bool) (ct st : Nat → Nat) : Prop := ∀ k, k < 4 → r_len b k w (ct k) (st k) ∧ r_num b k w (ct k)
theorem fs_split {f g : Nat → Nat} {p : Nat} {a : Nat} (h1 : ∀ i, i < a → f i = g i) : ∀ d, (∀ i, a ≤ i → i < a + d → f i = p) → fn_sum f (a + d) = fn_sum g a + d * p
  | 0, _ => by
    have e : ∀ n, n ≤ a → fn_sum f n = fn_sum g n := by
      intro n
      induction n with
      | zero => intro _; rfl
      | succ n ih =>
        intro hn
        show fn_sum f n + f n = fn_sum g n + g n
        rw [ih (by omega), h1 n (by omega)]
    rw [Nat.zero_mul]
    exact e a (Nat.le_refl _)
  | d + 1, h2 => by
    show fn_sum f (a + d) + f (a + d) = _
    rw [fs_split h1 d (fun i a1 a2 => h2 i a1 (by omega)), h2 (a + d) (by omega) (by omega), Nat.add_mul, Nat.one_mul]
    omega
/-- the chunks that the first e of M entries tell of, and their samples -/
def s_X (F : Nat → Nat) (M N e : Nat) : Nat := (if e < M then F e else N + 1) - 1
def s_B (F P : Nat → Nat) (M N : Nat) : Nat → Nat
  | 0 => 0
  | e + 1 => s_B F P M N e + ((if e + 1 < M then F (e + 1) else N + 1) - F e) * P e
theorem s_BX {F P : Nat → Nat} {M N : Nat} (h1 : 0 < M → F 0 = 1) (h0 : M = 0 → N = 0) (hr : ∀ e, e + 1 < M → F e < F (e + 1)) (hN : ∀ e, e < M → F e ≤ N) : ∀ e, e ≤ M → s_B F P M N e = fn_sum (fun c => s_pc F P (c + 1) e) (s_X F M N e) ∧ (e < M → 1 ≤ F e)
  | 0, _ => by
    refine ⟨?_, fun h => by rw [h1 h]; exact Nat.le_refl _⟩
    have : s_X F M N 0 = 0 := by
      unfold s_X
      split
      · rename_i h; rw [h1 h]
      · rw [h0 (by omega)]
    rw [this]
    rfl
  | e + 1, he => by
    obtain ⟨ih, hpos⟩ := s_BX h1 h0 hr hN e (by omega)
    have hFe := hpos (by omega)
    have hXe : s_X F M N e = F e - 1 := by unfold s_X; rw [if_pos (by omega)]
    have hnx : F e ≤ (if e + 1 < M then F (e + 1) else N + 1) := by
      split
      · rename_i h; have := hr e h; omega
      · have := hN e (by omega); omega
    refine ⟨?_, fun h => by have := hr e h; omega⟩
    show s_B F P M N e + ((if e + 1 < M then F (e + 1) else N + 1) - F e) * P e = _
    have hXs : s_X F M N (e + 1) = s_X F M N e + ((if e + 1 < M then F (e + 1) else N + 1) - F e) := by
      rw [hXe]; unfold s_X; omega
    rw [ih, hXs]
    refine (fs_split (fun i hi => ?_) _ (fun i hi _ => ?_)).symm
    · show (if F e ≤ i + 1 then P e else s_pc F P (i + 1) e) = _
      rw [if_neg (by omega)]
    · show (if F e ≤ i + 1 then P e else s_pc F P (i + 1) e) = _
      rw [if_pos (by omega)]
theorem s_BM {F P : Nat → Nat} {M N : Nat} (h1 : 0 < M → F 0 = 1) (h0 : M = 0 → N = 0) (hr : ∀ e, e + 1 < M → F e < F (e + 1)) (hN : ∀ e, e < M → F e ≤ N) : s_B F P M N M = fn_sum (fun c => s_pc F P (c + 1) M) N := by
  rw [(s_BX h1 h0 hr hN M (Nat.le_refl _)).1]
  have : s_X F M N M = N := by unfold s_X; rw [if_neg (Nat.lt_irrefl _)]; omega
  rw [this]
def zTB (Z : aj_Z) (o : Nat) : Prop := Z.2.1 o = some (.inl 9) ∧ Z.2.2 o 0 = .ref (o + 1) ∧ Z.2.2 o 1 = .ref (o + 2) ∧ Z.2.2 o 2 = .ref (o + 3) ∧ Z.2.2 o 3 = .ref (o + 4) ∧ Z.2.1 (o + 1) = some (.inr (6, 4)) ∧ Z.2.1 (o + 2) = some (.inr (0, 16)) ∧ Z.2.1 (o + 3) = some (.inr (0, 16)) ∧ Z.2.1 (o + 4) = some (.inr (1, 16)) ∧ ∀ k, k < 4 → Z.2.2 (o + 1) k = .ref (o + 5 + k) ∧ zTb Z (o + 5 + k)
theorem zTB_t {Z : aj_Z} (h : zAll Z) {t : Nat} (ht : t < 3) : zTB Z (25 + 9 * t) := by
  rcases (show t = 0 ∨ t = 1 ∨ t = 2 by omega) with q | q | q <;> subst q
  · refine ⟨zk_25 h, zr_25_0 h, zr_25_1 h, zr_25_2 h, zr_25_3 h, zk_26 h, zk_27 h, zk_28 h, zk_29 h, fun k hk => ?_⟩
    rcases r_k4 hk with q | q | q | q <;> subst q
    · exact ⟨zr_26_0 h, zk_30 h, zr_30_0 h⟩
    · exact ⟨zr_26_1 h, zk_31 h, zr_31_0 h⟩
    · exact ⟨zr_26_2 h, zk_32 h, zr_32_0 h⟩
    · exact ⟨zr_26_3 h, zk_33 h, zr_33_0 h⟩
  · refine ⟨zk_34 h, zr_34_0 h, zr_34_1 h, zr_34_2 h, zr_34_3 h, zk_35 h, zk_36 h, zk_37 h, zk_38 h, fun k hk => ?_⟩
    rcases r_k4 hk with q | q | q | q <;> subst q
    · exact ⟨zr_35_0 h, zk_39 h, zr_39_0 h⟩
    · exact ⟨zr_35_1 h, zk_40 h, zr_40_0 h⟩
    · exact ⟨zr_35_2 h, zk_41 h, zr_41_0 h⟩
    · exact ⟨zr_35_3 h, zk_42 h, zr_42_0 h⟩
  · refine ⟨zk_43 h, zr_43_0 h, zr_43_1 h, zr_43_2 h, zr_43_3 h, zk_44 h, zk_45 h, zk_46 h, zk_47 h, fun k hk => ?_⟩
    rcases r_k4 hk with q | q | q | q <;> subst q
    · exact ⟨zr_44_0 h, zk_48 h, zr_48_0 h⟩
    · exact ⟨zr_44_1 h, zk_49 h, zr_49_0 h⟩
    · exact ⟨zr_44_2 h, zk_50 h, zr_50_0 h⟩
    · exact ⟨zr_44_3 h, zk_51 h, zr_51_0 h⟩
def tkC (I : aj_I) (o : Nat) (w : Bool) (bx ct st : Nat → Nat) (len : Nat) : Prop := ∀ k, k < 4 → tbC I (o + 5 + k) k w (bx k) (ct k) (st k) ∧ st k ≤ len
section RA
variable {Z : aj_Z} {I : aj_I} {G : aj_G} {Q : aj_Q} {len : Nat} {b : Nat → Nat} {o : Nat} {w : Bool} {bx ct st : Nat → Nat} {d mc ms : Nat}
theorem r_lst_le {I : aj_I} (hf : fC I 17 18 len b) {k ct st : Nat} (hst : st ≤ len) (hl : r_len b k w ct st) : r_lst b k ct ≤ 1200 := by
  have hle := hf.2.1
  have h2 := hl.2
  have hew := r_ew_le k w
  have hmul : r_lst b k ct * 1 ≤ r_lst b k ct * r_ew k w := Nat.mul_le_mul_left _ (by omega)
  omega
theorem T_sizeToldOf (hz : zAll Z) (ho : zTB Z o) (hf : fC I 17 18 len b) (ht : tkC I o w bx ct st len) (hr : s_ok b w ct st) {i : Nat} (hi : i < s_n b ct) (hQ : Q (some (.long (lN (s_S b w ct i)))) Z I G) : aj_T (d + 3) mc ms 146 [.ref o, .int (nI i)] Z I G Q := by
  have h2 := ho.2.2.2.2.2.2.2.2.2 2 (by decide)
  have t2 := ht 2 (by decide)
  have r2 := hr 2 (by decide)
  have hs := r_sfa_lt hf t2.2 r2.1.1
  unfold s_S at hQ
  refine t_146 fun J hJ => b_146_0 hJ ho.1 ho.2.1 ho.2.2.2.2.2.1 (vp_in_nI (n := 2) (by decide) (by decide)) h2.1 h2.2.1 (T_sizeForAll hz h2.2 hf t2.1 t2.2 r2.1.1 (b_146_9 hJ ho.1 ho.2.1 ho.2.2.2.2.2.1 (fun _ => vp_in_nI (n := 2) (by decide) (by decide)) (fun _ => h2.1) h2.2.1 (fun q => ?_) (fun q => ?_)))
  · rw [show (0 : Int64) = lN 0 from rfl, l_eq (by omega) (by decide)] at q
    rw [if_pos q] at hQ
    refine T_entryNumber (j := 0) hz h2.2 hf t2.1 t2.2 r2.1 ?_ r_col_0 (b_146_31 hJ hQ)
    rw [show r_lst b 2 (ct 2) = r_told b 2 (ct 2) from if_pos q]
    exact hi
  · rw [show (0 : Int64) = lN 0 from rfl, l_eq (by omega) (by decide)] at q
    rw [if_neg q] at hQ
    exact b_146_31 hJ hQ
theorem T_samplesOfStts (hz : zAll Z) (ho : zTB Z o) (hf : fC I 17 18 len b) (ht : tkC I o w bx ct st len) (hr : s_ok b w ct st) (hQ : Q (some (.long (lN (fn_sum (s_q b w ct) (r_lst b 0 (ct 0)))))) Z I G) : aj_T (d + 4) mc ms 145 [.ref o] Z I G Q := by
  have h2 := ho.2.2.2.2.2.2.2.2.2 0 (by decide)
  have t2 := ht 0 (by decide)
  have r2 := hr 0 (by decide)
  have hle := r_lst_le hf t2.2 r2.1
  refine t_145 fun J hJ => b_145_0 hJ ho.1 ho.2.1 ho.2.2.2.2.2.1 (vp_in_nI (n := 0) (by decide) (by decide)) h2.1 h2.2.1 (T_listed hz h2.2 hf t2.1 t2.2 r2.1 (b_145_11 hJ ?_))
  have key : ∀ (m e : Nat) (w0 w4 : Option Value), m + e = r_lst b 0 (ct 0) → J 17 [w0, some (.ref (o + 5 + 0)), some (.int (nI (r_lst b 0 (ct 0)))), some (.long (lN (fn_sum (s_q b w ct) e))), w4, some (.int (nI e))] [] Z I G (0, 0) := by
    intro m
    induction m with
    | zero =>
      intro e w0 w4 he
      have he : e = r_lst b 0 (ct 0) := by omega
      refine b_145_17 hJ (fun _ => ?_) h2.2.1 (fun z => absurd (nI_le (by omega) (by omega)) z)
      rw [he]; exact hQ
    | succ m ih =>
      intro e w0 w4 he
      refine b_145_17 hJ (fun z => absurd z (nI_ge (by omega) (by omega))) h2.2.1 (fun _ => T_entryNumber (j := 0) hz h2.2 hf t2.1 t2.2 r2.1 (by omega) r_col_0 (b_145_31 hJ ?_))
      rw [lN_add, nI_1]
      exact ih (e + 1) _ _ (by omega)
  exact key (r_lst b 0 (ct 0)) 0 _ _ (Nat.add_zero _)
theorem T_sizesAreSmall (hz : zAll Z) (ho : zTB Z o) (hf : fC I 17 18 len b) (ht : tkC I o w bx ct st len) (hr : s_ok b w ct st) (hn : s_n b ct ≤ 16) (h1 : (∀ i, i < s_n b ct → s_S b w ct i ≤ 8) → Q (some (.int 1)) Z I G) (h2 : ¬ (∀ i, i < s_n b ct → s_S b w ct i ≤ 8) → Q (some (.int 0)) Z I G) : aj_T (d + 4) mc ms 147 [.ref o, .int (nI (s_n b ct))] Z I G Q := by
  have t2 := ht 2 (by decide)
  have r2 := hr 2 (by decide)
  have hs := r_sfa_lt hf t2.2 r2.1.1
  refine t_147 fun J hJ => b_147_0 hJ ?_
  have key : ∀ (m i : Nat), m + i = s_n b ct → (∀ j, j < i → s_S b w ct j ≤ 8) → J 2 [some (.ref o), some (.int (nI (s_n b ct))), some (.int (nI i))] [] Z I G (0, 0) := by
    intro m
    induction m with
    | zero =>
      intro i hi hall
      exact b_147_2 hJ (fun _ => h1 (fun j hj => hall j (by omega))) ho.1 (fun z => absurd (nI_le (by omega) (by omega)) z)
    | succ m ih =>
      intro i hi hall
      have hS : s_S b w ct i < 4294967296 := by
        unfold s_S
        split
        · rename_i q
          refine r_en_lt4 hf t2.1.2.2.2.2.2.2.1 t2.2 r2.1 (by decide) ?_ r_col_0
          rw [show r_lst b 2 (ct 2) = r_told b 2 (ct 2) from if_pos q]
          show i < s_n b ct
          omega
        · exact hs
      refine b_147_2 hJ (fun z => absurd z (nI_ge (by omega) (by omega))) ho.1 (fun _ => T_sizeToldOf hz ho hf ht hr (by omega) (b_147_12 hJ (fun z => ?_) (fun z => h2 (fun y => z ?_))))
      · rw [show (8 : Int64) = lN 8 from rfl, l_le (by omega) (by decide)] at z
        rw [nI_1]
        refine ih (i + 1) (by omega) (fun j hj => ?_)
        by_cases q : j = i
        · rw [q]; exact z
        · exact hall j (by omega)
      · rw [show (8 : Int64) = lN 8 from rfl, l_le (by omega) (by decide)]
        exact y i (by omega)
  exact key (s_n b ct) 0 (Nat.add_zero _) (fun j hj => absurd hj (Nat.not_lt_zero _))
theorem s_rise {b : Nat → Nat} {w : Bool} {ct st : Nat → Nat} (hr : s_ok b w ct st) : (0 < r_lst b 1 (ct 1) → s_F b w ct 0 = 1) ∧ (∀ e, e + 1 < r_lst b 1 (ct 1) → s_F b w ct e < s_F b w ct (e + 1)) := by
  have r1 := hr 1 (by decide)
  refine ⟨fun h => ?_, fun e h => ?_⟩
  · have := ((r1.2.2 0 h).2.2 rfl).1
    rw [if_pos rfl] at this
    exact this
  · have := ((r1.2.2 (e + 1) h).2.2 rfl).1
    rw [if_neg (by omega)] at this
    exact this
theorem s_riseL {F : Nat → Nat} {M N : Nat} (hr : ∀ e, e + 1 < M → F e < F (e + 1)) (hM : 0 < M) (hN : F (M - 1) ≤ N) : ∀ e, e < M → F e ≤ N := by
  have key : ∀ d e, e + d = M - 1 → F e ≤ N := by
    intro d
    induction d with
    | zero => intro e he; rw [show e = M - 1 by omega]; exact hN
    | succ d ih =>
      intro e he
      have h1 := ih (e + 1) (by omega)
      have h2 := hr e (by omega)
      omega
  intro e he
  exact key (M - 1 - e) e (by omega)
theorem T_entriesMeet (hz : zAll Z) (ho : zTB Z o) (hf : fC I 17 18 len b) (ht : tkC I o w bx ct st len) (hr : s_ok b w ct st) (hc : s_c b ct ≤ 16) (h1 : (r_lst b 1 (ct 1) = 0 → s_c b ct = 0) → (∀ e, e < r_lst b 1 (ct 1) → s_F b w ct e ≤ s_c b ct) → Q (some (.int 1)) Z I G) (h2 : ¬ ((r_lst b 1 (ct 1) = 0 → s_c b ct = 0) ∧ (∀ e, e < r_lst b 1 (ct 1) → s_F b w ct e ≤ s_c b ct)) → Q (some (.int 0)) Z I G) : aj_T (d + 4) mc ms 148 [.ref o, .int (nI (s_c b ct))] Z I G Q := by
  have g1 := ho.2.2.2.2.2.2.2.2.2 1 (by decide)
  have t1 := ht 1 (by decide)
  have r1 := hr 1 (by decide)
  have hle := r_lst_le hf t1.2 r1.1
  have rise := s_rise hr
  refine t_148 fun J hJ => b_148_0 hJ ho.1 ho.2.1 ho.2.2.2.2.2.1 (vp_in_nI (n := 1) (by decide) (by decide)) g1.1 g1.2.1 (T_listed hz g1.2 hf t1.1 t1.2 r1.1 (b_148_9 hJ ho.1 ho.2.1 ho.2.2.2.2.2.1 (fun _ => vp_in_nI (n := 1) (by decide) (by decide)) (fun _ => g1.1) g1.2.1 (fun q => ?_) (fun q q2 => h2 (fun z => q2 ?_)) (fun q q2 => ?_)))
  · have hM : r_lst b 1 (ct 1) ≠ 0 := fun z => q (by rw [z]; rfl)
    have bF := r_en_lt4 hf t1.1.2.2.2.2.2.2.1 t1.2 r1.1 (by decide) (show r_lst b 1 (ct 1) - 1 < r_lst b 1 (ct 1) by omega) (r_col_0 (k := 1) (w := w))
    rw [show (1 : Int32) = nI 1 from rfl, pk_sub (by omega)]
    refine T_entryNumber (j := 0) hz g1.2 hf t1.1 t1.2 r1.1 (by omega) r_col_0 (b_148_37 hJ (fun z => h2 (fun y => ?_)) (fun z => h1 (fun y => absurd y hM) ?_))
    · rw [nI_l (by omega), l_lt (by omega) (by omega)] at z
      have := y.2 (r_lst b 1 (ct 1) - 1) (by omega)
      unfold s_F at this
      omega
    · rw [nI_l (by omega), l_lt (by omega) (by omega)] at z
      exact s_riseL rise.2 (by omega) (by unfold s_F; omega)
  · have hM : r_lst b 1 (ct 1) = 0 := (nI_eq (b := 0) (by omega) (by decide)).mp q
    rw [z.1 hM]; rfl
  · have hM : r_lst b 1 (ct 1) = 0 := (nI_eq (b := 0) (by omega) (by decide)).mp q
    have hC : s_c b ct = 0 := (nI_eq (b := 0) (by omega) (by decide)).mp q2
    exact h1 (fun _ => hC) (fun e he => absurd he (by omega))
theorem T_samplesOfChunks (hz : zAll Z) (ho : zTB Z o) (hf : fC I 17 18 len b) (ht : tkC I o w bx ct st len) (hr : s_ok b w ct st) (hc : s_c b ct ≤ 16) (hm0 : r_lst b 1 (ct 1) = 0 → s_c b ct = 0) (hm : ∀ e, e < r_lst b 1 (ct 1) → s_F b w ct e ≤ s_c b ct) (hQ : Q (some (.long (lN (fn_sum (s_pk b w ct) (s_c b ct))))) Z I G) : aj_T (d + 4) mc ms 149 [.ref o, .int (nI (s_c b ct))] Z I G Q := by
  have g1 := ho.2.2.2.2.2.2.2.2.2 1 (by decide)
  have t1 := ht 1 (by decide)
  have r1 := hr 1 (by decide)
  have hle := r_lst_le hf t1.2 r1.1
  have rise := s_rise hr
  have hBM := s_BM (P := s_P b w ct) rise.1 hm0 rise.2 hm
  refine t_149 fun J hJ => b_149_0 hJ ho.1 ho.2.1 ho.2.2.2.2.2.1 (vp_in_nI (n := 1) (by decide) (by decide)) g1.1 g1.2.1 (T_listed hz g1.2 hf t1.1 t1.2 r1.1 (b_149_11 hJ ?_))
  have key : ∀ (m e : Nat) (w0 w5 w7 w8 : Option Value), m + e = r_lst b 1 (ct 1) → J 18 [w0, some (.int (nI (s_c b ct))), some (.ref (o + 5 + 1)), some (.int (nI (r_lst b 1 (ct 1)))), some (.long (lN (s_B (s_F b w ct) (s_P b w ct) (r_lst b 1 (ct 1)) (s_c b ct) e))), w5, some (.int (nI e)), w7, w8] [] Z I G (0, 0) := by
    intro m
    induction m with
    | zero =>
      intro e w0 w5 w7 w8 he
      have he : e = r_lst b 1 (ct 1) := by omega
      have hle' : nI (r_lst b 1 (ct 1)) ≤ nI e := nI_le (by omega) (by omega)
      refine b_149_18 hJ (fun _ => ?_) (fun z => absurd hle' z) g1.2.1 (fun z => absurd hle' z)
      rw [he, hBM]
      exact hQ
    | succ m ih =>
      intro e w0 w5 w7 w8 he
      have hnx : s_F b w ct e ≤ (if e + 1 < r_lst b 1 (ct 1) then s_F b w ct (e + 1) else s_c b ct + 1) := by
        split
        · rename_i h; have := rise.2 e h; omega
        · have := hm e (by omega); omega
      have tail : ∀ (x : Int64) (w7 w8 : Option Value), x = lN (if e + 1 < r_lst b 1 (ct 1) then s_F b w ct (e + 1) else s_c b ct + 1) → J 48 [w0, some (.int (nI (s_c b ct))), some (.ref (o + 5 + 1)), some (.int (nI (r_lst b 1 (ct 1)))), some (.long (lN (s_B (s_F b w ct) (s_P b w ct) (r_lst b 1 (ct 1)) (s_c b ct) e))), w5, some (.int (nI e)), w7, w8] [.long x] Z I G (0, 0) := by
        intro x w7 w8 hx
        refine b_149_48 hJ g1.2.1 (T_entryNumber (j := 0) hz g1.2 hf t1.1 t1.2 r1.1 (by omega) r_col_0 (b_149_61 hJ g1.2.1 (T_entryNumber (j := 1) hz g1.2 hf t1.1 t1.2 r1.1 (by omega) r_col_11 (b_149_69 hJ ?_))))
        rw [hx, show r_en b 1 w (ct 1) e 0 = s_F b w ct e from rfl, show r_en b 1 w (ct 1) e 1 = s_P b w ct e from rfl, lN_sub hnx, lN_mul, lN_add, nI_1]
        exact ih (e + 1) _ _ _ _ (by omega)
      refine b_149_18 hJ (fun z => absurd z (nI_ge (by omega) (by omega))) (fun _ z => tail _ _ _ ?_) g1.2.1 (fun _ z => ?_)
      · rw [nI_1] at z
        have z := (nI_leI (by omega) (by omega)).mp z
        rw [nI_1, nI_l (by omega), if_neg (by omega)]
      · rw [nI_1] at z ⊢
        have z : e + 1 < r_lst b 1 (ct 1) := Nat.not_le.mp (fun y => z (nI_le y (by omega)))
        refine T_entryNumber (j := 0) hz g1.2 hf t1.1 t1.2 r1.1 z r_col_0 (b_149_41 hJ (tail _ _ _ ?_))
        rw [if_pos z]
        rfl
  exact key (r_lst b 1 (ct 1)) 0 _ _ _ _ (Nat.add_zero _)
end RA
