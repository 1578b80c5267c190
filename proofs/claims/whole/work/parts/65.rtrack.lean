/-! read: a track of the class, whole -/
section RD
variable {Z : aj_Z} {I : aj_I} {G : aj_G} {Q : aj_Q} {len : Nat} {b : Nat → Nat} {o : Nat} {w : Bool} {bx ct st : Nat → Nat} {d mc ms : Nat}
theorem T_unfold (hz : zAll Z) (ho : zTB Z o) (ho2 : 18 < o) (hf : fC I 17 18 len b) (ht : tkC I o w bx ct st len) (hr : s_ok b w ct st) (ha : s_agr b w ct) (hQ : ∀ (I' : aj_I) (G' : aj_G), (∀ a, a ≠ o → a ≠ o + 2 → a ≠ o + 3 → I' a = I a) → I' o 5 = I o 5 → I' o 4 = nI (s_n b ct) → (∀ a, a ≠ o + 4 → G' a = G a) → (∀ j, j < s_n b ct → I' (o + 2) j = nI (s_D b w ct j) ∧ I' (o + 3) j = nI (s_S b w ct j) ∧ G' (o + 4) j = lN (s_G b w ct j)) → Q none Z I' G') : aj_T (d + 5) mc ms 150 [.ref o] Z I G Q := by
  have g2 := ho.2.2.2.2.2.2.2.2.2 2 (by decide)
  have t2 := ht 2 (by decide)
  have r2 := hr 2 (by decide)
  have hn16 := ha.2.1
  refine t_150 fun J hJ => b_150_0 hJ ho.1 ho.2.1 ho.2.2.2.2.2.1 (vp_in_nI (n := 2) (by decide) (by decide)) g2.1 g2.2.1 (T_told hz g2.2 hf t2.1 t2.2 r2.1.1 (b_150_10 hJ ho.1 ?_))
  have e1 : Int64.toInt32 (if (16 : Int64) < lN (r_told b 2 (ct 2)) then 16 else lN (r_told b 2 (ct 2))) = nI (s_n b ct) := by
    rw [if_neg (show ¬ (16 : Int64) < lN (r_told b 2 (ct 2)) from fun q => by
      rw [show (16 : Int64) = lN 16 from rfl, show r_told b 2 (ct 2) = s_n b ct from rfl, l_lt (by decide) (by omega)] at q
      omega), lN_i]
    rfl
  rw [e1]
  have key : ∀ (m i : Nat) (I1 : aj_I), m + i = s_n b ct → (∀ a, a ≠ o → a ≠ o + 3 → I1 a = I a) → I1 o 5 = I o 5 → I1 o 4 = nI (s_n b ct) → (∀ j, j < i → I1 (o + 3) j = nI (s_S b w ct j)) → J 22 [some (.ref o), some (.int (nI i))] [] Z I1 G (0, 0) := by
    intro m
    induction m with
    | zero =>
      intro i I1 hi hfr h5 h4 hpl
      have hi : i = s_n b ct := by omega
      have hf1 : fC I1 17 18 len b := hf.same (hfr 17 (by omega) (by omega)) (hfr 18 (by omega) (by omega))
      have ht1 : tkC I1 o w bx ct st len := ht.same (fun k hk => hfr _ (by omega) (by omega))
      refine b_150_22 hJ ho.1 (fun _ => T_unfoldDurations hz ho ho2 hf1 ht1 hr ha h4 (fun I2 hfr2 hD => b_150_52 hJ ho.1 ?_)) ho.2.2.2.1 (fun z => ?_)
      · have hf2 : fC I2 17 18 len b := hf1.same (hfr2 17 (by omega)) (hfr2 18 (by omega))
        have ht2 : tkC I2 o w bx ct st len := ht1.same (fun k hk => hfr2 _ (by omega))
        refine T_unfoldBegins hz ho hf2 ht2 hr ha (by rw [hfr2 o (by omega)]; exact h4) (fun j hj => by rw [hfr2 (o + 3) (by omega)]; exact hpl j (by omega)) (fun G3 hg3 hB => b_150_56 hJ (hQ I2 G3 (fun a a1 a2 a3 => by rw [hfr2 a a2]; exact hfr a a1 a3) (by rw [hfr2 o (by omega)]; exact h5) (by rw [hfr2 o (by omega)]; exact h4) hg3 (fun j hj => ⟨hD j hj, by rw [hfr2 (o + 3) (by omega)]; exact hpl j (by omega), hB j hj⟩)))
      · rw [h4] at z; exact absurd (nI_le (by omega) (by omega)) z
    | succ m ih =>
      intro i I1 hi hfr h5 h4 hpl
      have hf1 : fC I1 17 18 len b := hf.same (hfr 17 (by omega) (by omega)) (hfr 18 (by omega) (by omega))
      have ht1 : tkC I1 o w bx ct st len := ht.same (fun k hk => hfr _ (by omega) (by omega))
      refine b_150_22 hJ ho.1 (fun z => ?_) ho.2.2.2.1 (fun _ => T_sizeToldOf hz ho hf1 ht1 hr (by omega) (b_150_40 hJ ho.2.2.2.2.2.2.2.1 (vp_in_nI (by omega) (by decide)) ?_))
      · rw [h4] at z; exact absurd z (nI_ge (by omega) (by omega))
      · rw [lN_i, nI_1, nI_clamp (show i < 2 ^ 31 by omega)]
        refine ih (i + 1) (aj_u2 I1 (o + 3) i (nI (s_S b w ct i))) (by omega) (fun a a1 a2 => by rw [aj_u2_ne a2]; exact hfr a a1 a2) (by rw [aj_u2_ne (by omega)]; exact h5) (by rw [aj_u2_ne (by omega)]; exact h4) (fun j hj => ?_)
        by_cases q : j = i
        · rw [q, aj_u2_at]
        · rw [aj_u2_n2 q]; exact hpl j (by omega)
  refine key (s_n b ct) 0 _ (Nat.add_zero _) (fun a a1 a2 => aj_u2_ne a1) (aj_u2_n2 (by decide)) aj_u2_at (fun j hj => absurd hj (Nat.not_lt_zero _))
theorem T_samplesLieIn (ho : zTB Z o) {lo hi : Nat} (hlo : lo ≤ 1200) (hhi : hi ≤ 1200) (hn16 : s_n b ct ≤ 16) (hS : ∀ i, i < s_n b ct → s_S b w ct i ≤ 8) (hG : ∀ i, i < s_n b ct → s_G b w ct i < 2 ^ 32) (h4 : I o 4 = nI (s_n b ct)) (hv : ∀ j, j < s_n b ct → I (o + 3) j = nI (s_S b w ct j) ∧ G (o + 4) j = lN (s_G b w ct j)) (h1 : s_in b w ct lo hi → Q (some (.int 1)) Z I G) (h2 : ¬ s_in b w ct lo hi → Q (some (.int 0)) Z I G) : aj_T (d + 1) mc ms 153 [.ref o, .int (nI lo), .int (nI hi)] Z I G Q := by
  refine t_153 fun J hJ => b_153_0 hJ ?_
  have key : ∀ (m i : Nat), m + i = s_n b ct → (∀ j, j < i → 0 < s_S b w ct j → lo ≤ s_G b w ct j ∧ s_G b w ct j + s_S b w ct j ≤ hi) → J 2 [some (.ref o), some (.int (nI lo)), some (.int (nI hi)), some (.int (nI i))] [] Z I G (0, 0) := by
    intro m
    induction m with
    | zero =>
      intro i hi' hall
      have hst : I o 4 ≤ nI i := by rw [h4]; exact nI_le (by omega) (by omega)
      exact b_153_2 hJ ho.1 (fun _ => h1 (fun j hj => hall j (by omega))) ho.2.2.2.1 ho.2.2.2.2.2.2.2.1 (fun z => absurd hst z) (fun z => absurd hst z) ho.2.2.2.2.1 ho.2.2.2.2.2.2.2.2.1 (fun z => absurd hst z) (fun z => absurd hst z) (fun z => absurd hst z) (fun z => absurd hst z) (fun z => absurd hst z) (fun z => absurd hst z)
    | succ m ih =>
      intro i hi' hall
      have hil : i < s_n b ct := by omega
      have hx := hv i hil
      have hs8 := hS i hil
      have hg := hG i hil
      have eS : I (o + 3) (nI i).toNatClampNeg = nI (s_S b w ct i) := by rw [nI_clamp (by omega)]; exact hx.1
      have eG : G (o + 4) (nI i).toNatClampNeg = lN (s_G b w ct i) := by rw [nI_clamp (by omega)]; exact hx.2
      have vin : vp_in (nI i) 16 := vp_in_nI (by omega) (by decide)
      have next : (0 < s_S b w ct i → lo ≤ s_G b w ct i ∧ s_G b w ct i + s_S b w ct i ≤ hi) → J 2 [some (.ref o), some (.int (nI lo)), some (.int (nI hi)), some (.int (nI i + 1))] [] Z I G (0, 0) := by
        intro hh
        rw [nI_1]
        refine ih (i + 1) (by omega) (fun j hj => ?_)
        by_cases q : j = i
        · rw [q]; exact hh
        · exact hall j (by omega)
      refine b_153_2 hJ ho.1 (fun z => ?_) ho.2.2.2.1 ho.2.2.2.2.2.2.2.1 (fun _ => vin) (fun _ z => next (fun y => ?_)) ho.2.2.2.2.1 ho.2.2.2.2.2.2.2.2.1 (fun _ _ => vin) (fun _ z y => h2 (fun x => ?_)) (fun _ _ _ => vin) (fun _ _ _ => vin) (fun _ z y x => next (fun _ => ⟨?_, ?_⟩)) (fun _ z y x => h2 (fun v => x ?_))
      · rw [h4] at z; exact absurd z (nI_ge (by omega) (by omega))
      · rw [eS, show (0 : Int32) = nI 0 from rfl, nI_leI (by omega) (by decide)] at z; omega
      · rw [eS, show (0 : Int32) = nI 0 from rfl, nI_leI (by omega) (by decide)] at z
        rw [eG, nI_l (by omega), l_lt (by omega) (by omega)] at y
        have := x i hil (by omega)
        omega
      · rw [eG, nI_l (by omega), l_lt (by omega) (by omega)] at y; omega
      · rw [eG, eS, nI_l (by omega), nI_l (by omega), lN_add, l_le (by omega) (by omega)] at x; exact x
      · rw [eS, show (0 : Int32) = nI 0 from rfl, nI_leI (by omega) (by decide)] at z
        rw [eG, eS, nI_l (by omega), nI_l (by omega), lN_add, l_le (by omega) (by omega)]
        exact (v i hil (by omega)).2
  exact key (s_n b ct) 0 (Nat.add_zero _) (fun j hj => absurd hj (Nat.not_lt_zero _))
theorem s_bg_lt {p L S : Nat → Nat} {M j : Nat} (hL : ∀ c, c < M → L c < 2 ^ 31) (hS : ∀ i, i ≤ j → S i ≤ 8) : ∀ c, c ≤ M → s_bg p L S j c ≤ 2 ^ 31 + 8 * j
  | 0, _ => Nat.zero_le _
  | c + 1, hc => by
    show (if fn_sum p c ≤ j ∧ j < fn_sum p (c + 1) then L c + w_cb S (fn_sum p c) (j - fn_sum p c) else s_bg p L S j c) ≤ _
    split
    · have h1 := hL c (by omega)
      have h2 := w_cb_le (si := S) (i := fn_sum p c) (j - fn_sum p c) (fun i hi => hS _ (by omega))
      omega
    · exact s_bg_lt hL hS c (by omega)
theorem s_G_lt (hr : s_ok b w ct st) (ha : s_agr b w ct) {i : Nat} (hi : i < s_n b ct) : s_G b w ct i < 2 ^ 32 := by
  have r3 := hr 3 (by decide)
  have hn := ha.2.1
  have := s_bg_lt (p := s_pk b w ct) (L := s_L b w ct) (S := s_S b w ct) (M := s_c b ct) (j := i) (fun c hc => (r3.2.2 c hc).1) (fun j hj => ha.2.2.2.2.1 j (by omega)) (s_c b ct) (Nat.le_refl _)
  unfold s_G
  omega
end RD
