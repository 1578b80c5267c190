/-! the reference: state, and the calls that don't write or read -/
def mR (I : aj_I) (G : aj_G) (n : Nat) (c : Nat → Nat) (du si : Nat → Nat → Nat) (da : Nat → Nat → Int64) : Prop := I 54 0 = nI n ∧ n ≤ 3 ∧ ∀ t, t < n → I 55 t = nI (c t) ∧ c t ≤ 16 ∧ ∀ i, i < c t → I 56 (16 * t + i) = nI (du t i) ∧ du t i < 2 ^ 31 ∧ I 57 (16 * t + i) = nI (si t i) ∧ si t i ≤ 8 ∧ G 58 (16 * t + i) = da t i
def mF (I : aj_I) (len : Nat) (b : Nat → Nat) : Prop := I 54 5 = nI len ∧ len ≤ 1200 ∧ ∀ j, j < len → b j < 256 ∧ I 59 j = nI (b j)
def mS (I : aj_I) (G : aj_G) (n : Nat) (c : Nat → Nat) (du si : Nat → Nat → Nat) (da : Nat → Nat → Int64) (len : Nat) (b : Nat → Nat) (pl : Int32) : Prop := mR I G n c du si da ∧ mF I len b ∧ I 54 7 = pl
theorem sm_16 (t i : Nat) : (16 : Int32) * nI t + nI i = nI (16 * t + i) := by rw [show (16 : Int32) = nI 16 from rfl, pk_mul, nI_add]
section MD
variable {Z : aj_Z} {I : aj_I} {G : aj_G} {Q : aj_Q} {n : Nat} {c : Nat → Nat} {du si : Nat → Nat → Nat} {da : Nat → Nat → Int64} {len : Nat} {b : Nat → Nat} {pl : Int32} {d mc ms : Nat}
theorem M_isTrack (hz : zAll Z) (hn : I 54 0 = nI n) (hn3 : n ≤ 3) {x : Int32} (h1 : ∀ t, t < n → x = nI t → Q (some (.int 1)) Z I G) (h2 : (∀ t, t < n → x ≠ nI t) → Q (some (.int 0)) Z I G) : aj_T (d + 1) mc ms 21 [.ref 54, .int x] Z I G Q := by
  rcases nI_ix x (n := n) (by omega) with ⟨t, ht, rfl⟩ | ⟨hx, hx2⟩
  · refine t_21 fun J hJ => b_21_0 hJ (fun h => absurd h (nI_pos (by omega))) (zk_54 hz) (fun _ h => ?_) (fun _ _ => h1 t ht rfl)
    rw [hn] at h; exact absurd h (nI_ge ht (by omega))
  · refine t_21 fun J hJ => b_21_0 hJ (fun _ => h2 hx) (zk_54 hz) (fun _ _ => h2 hx) (fun a1 a2 => ?_)
    rw [hn] at a2
    rcases hx2 with h | h
    · exact absurd h a1
    · exact absurd h a2
theorem M_isSample (hz : zAll Z) (h : mR I G n c du si da) {x y : Int32} (h1 : ∀ t i, t < n → x = nI t → i < c t → y = nI i → Q (some (.int 1)) Z I G) (h2 : (¬ ∃ t i, t < n ∧ x = nI t ∧ i < c t ∧ y = nI i) → Q (some (.int 0)) Z I G) : aj_T (d + 2) mc ms 22 [.ref 54, .int x, .int y] Z I G Q := by
  have hn := h.2.1
  refine t_22 fun J hJ => b_22_0 hJ (zk_54 hz) (M_isTrack hz h.1 hn (fun t ht e => ?_) (fun hno => ?_))
  · subst e
    have hct := h.2.2 t ht
    have h16 := hct.2.1
    rcases nI_ix y (n := c t) (by omega) with ⟨i, hi, rfl⟩ | ⟨hy, hy2⟩
    · refine b_22_5 hJ (fun z => absurd z (by decide)) (fun _ z => absurd z (nI_pos (by omega))) (zk_54 hz) (zr_54_1 hz) (zk_55 hz) (fun _ _ => vp_in_nI (by omega) (by decide)) (fun _ _ z => ?_) (fun _ _ _ => h1 t i ht rfl hi rfl)
      rw [nI_clamp (by omega), hct.1] at z
      exact absurd z (nI_ge hi (by omega))
    · have hno : ¬ ∃ s i, s < n ∧ nI t = nI s ∧ i < c s ∧ y = nI i := by
        rintro ⟨s, i, a1, a2, a3, a4⟩
        have : t = s := (nI_eq (by omega) (by omega)).mp a2
        subst this
        exact hy i a3 a4
      refine b_22_5 hJ (fun _ => h2 hno) (fun _ _ => h2 hno) (zk_54 hz) (zr_54_1 hz) (zk_55 hz) (fun _ _ => vp_in_nI (by omega) (by decide)) (fun _ _ _ => h2 hno) (fun _ a1 a2 => ?_)
      rw [nI_clamp (by omega), hct.1] at a2
      rcases hy2 with z | z
      · exact absurd z a1
      · exact absurd z a2
  · have hno2 : ¬ ∃ s i, s < n ∧ x = nI s ∧ i < c s ∧ y = nI i := by
      rintro ⟨s, i, a1, a2, -⟩
      exact hno s a1 a2
    exact b_22_5 (q0 := 55) (nk1 := 3) hJ (fun _ => h2 hno2) (fun z => absurd rfl z) (zk_54 hz) (zr_54_1 hz) (zk_55 hz) (fun z => absurd rfl z) (fun z => absurd rfl z) (fun z => absurd rfl z)
theorem M_track (hz : zAll Z) (h : mS I G n c du si da len b pl) (h1 : ∀ I' : aj_I, n < 3 → (∀ a, a < 54 → I' a = I a) → mS I' G (n + 1) (va_up c n 0) du si da len b pl → Q (some (.int (nI n))) Z I' G) (h2 : n = 3 → Q (some (.int (-1))) Z I G) : aj_T (d + 1) mc ms 20 [.ref 54] Z I G Q := by
  have hn := h.1.2.1
  have e0 := h.1.1
  refine t_20 fun J hJ => b_20_0 hJ (zk_54 hz) (zr_54_1 hz) (zk_55 hz) (fun z => ?_) (fun z => ?_) (fun z => ?_)
  · have : n ≠ 3 := fun q => z (by rw [e0, q]; rfl)
    rw [e0]; exact vp_in_nI (by omega) (by decide)
  · have hn3 : n ≠ 3 := fun q => z (by rw [e0, q]; rfl)
    rw [aj_u2_at, aj_u2_n1 (by decide), e0, nI_1, nI_pred, nI_clamp (by omega)]
    refine h1 _ (by omega) (fun a ha => by rw [aj_u2_ne (by omega), aj_u2_ne (by omega)]) ⟨⟨aj_u2_at, by omega, fun t ht => ?_⟩, ⟨?_, h.2.1.2.1, fun j hj => ?_⟩, ?_⟩
    · rw [aj_u2_ne (show 55 ≠ 54 by decide), aj_u2_ne (show 56 ≠ 54 by decide), aj_u2_ne (show 56 ≠ 55 by decide), aj_u2_ne (show 57 ≠ 54 by decide), aj_u2_ne (show 57 ≠ 55 by decide)]
      by_cases htn : t = n
      · subst htn
        rw [aj_u2_at, aj_up_eq]
        exact ⟨rfl, by decide, fun i hi => absurd hi (by omega)⟩
      · rw [aj_u2_n2 htn, aj_up_ne htn]
        exact h.1.2.2 t (by omega)
    · rw [aj_u2_n2 (by decide), aj_u2_n1 (by decide)]; exact h.2.1.1
    · rw [aj_u2_ne (show 59 ≠ 54 by decide), aj_u2_ne (show 59 ≠ 55 by decide)]; exact h.2.1.2.2 j hj
    · rw [aj_u2_n2 (by decide), aj_u2_n1 (by decide)]; exact h.2.2
  · rw [e0] at z
    exact h2 ((nI_eq (a := n) (b := 3) (by omega) (by decide)).mp z)
theorem M_sample (hz : zAll Z) (h : mS I G n c du si da len b pl) {x1 x2 x5 : Int32} {v : Int64}
    (h1 : ∀ (t x k : Nat) (I' : aj_I) (G' : aj_G), t < n → x1 = nI t → c t < 16 → x < 2 ^ 31 → x2 = nI x → k ≤ 8 → x5 = nI k → (∀ a, a < 54 → I' a = I a ∧ G' a = G a) → mS I' G' n (va_up c t (c t + 1)) (aj_u2 du t (c t) x) (aj_u2 si t (c t) k) (aj_u2 da t (c t) (fn_low v k)) len b pl → Q (some (.int (nI (c t)))) Z I' G')
    (h2 : (¬ ∃ t x k : Nat, t < n ∧ x1 = nI t ∧ c t < 16 ∧ x < 2 ^ 31 ∧ x2 = nI x ∧ k ≤ 8 ∧ x5 = nI k) → Q (some (.int (-1))) Z I G) : aj_T (d + 2) mc ms 23 [.ref 54, .int x1, .int x2, .long v, .int x5] Z I G Q := by
  have hn := h.1.2.1
  refine t_23 fun J hJ => b_23_0 hJ (zk_54 hz) (M_isTrack hz h.1.1 hn (fun t ht e => ?_) (fun hno => ?_))
  · subst e
    have hct := h.1.2.2 t ht
    have h16 := hct.2.1
    have ect : I 55 (nI t).toNatClampNeg = nI (c t) := by rw [nI_clamp (by omega)]; exact hct.1
    by_cases hok : ∃ x k : Nat, c t < 16 ∧ x < 2 ^ 31 ∧ x2 = nI x ∧ k ≤ 8 ∧ x5 = nI k
    · obtain ⟨x, k, a1, a2, rfl, a4, rfl⟩ := hok
      have n16 : ¬ I 55 (nI t).toNatClampNeg = 16 := by rw [ect]; exact fun z => absurd ((nI_eq (a := c t) (b := 16) (by omega) (by decide)).mp z) (by omega)
      have go : ∀ (s0 : Int64), s0 = fn_low v k → J 95 [some (.ref 54), some (.int (nI t)), some (.int (nI x)), some (.long v), none, some (.int (nI k)), some (.int (16 * nI t + I 55 (nI t).toNatClampNeg))] [.long s0, .int (16 * nI t + I 55 (nI t).toNatClampNeg), .ref 58] Z (aj_u2 (aj_u2 I 56 (16 * nI t + I 55 (nI t).toNatClampNeg).toNatClampNeg (nI x)) 57 (16 * nI t + I 55 (nI t).toNatClampNeg).toNatClampNeg (nI k)) G (0, 0) := by
        intro s0 hs0
        subst hs0
        rw [ect, sm_16, nI_clamp (show 16 * t + c t < 2 ^ 31 by omega)]
        refine b_23_95 hJ (zk_58 hz) (vp_in_nI (by omega) (by decide)) (zk_54 hz) (zr_54_1 hz) (zk_55 hz) (vp_in_nI (by omega) (by decide)) (vp_in_nI (by omega) (by decide)) (vp_in_nI (by omega) (by decide)) ?_
        rw [aj_u2_at, nI_clamp (show t < 2 ^ 31 by omega), nI_clamp (show 16 * t + c t < 2 ^ 31 by omega), aj_u2_n1 (show 55 ≠ 57 by decide), aj_u2_n1 (show 55 ≠ 56 by decide), hct.1, nI_1, nI_pred]
        refine h1 t x k _ _ ht rfl a1 a2 rfl a4 rfl (fun a ha => ⟨by rw [aj_u2_ne (by omega), aj_u2_ne (by omega), aj_u2_ne (by omega)], aj_u2_ne (by omega)⟩) ⟨⟨?_, hn, fun s hs => ?_⟩, ⟨?_, h.2.1.2.1, fun j hj => ?_⟩, ?_⟩
        · rw [aj_u2_ne (show 54 ≠ 55 by decide), aj_u2_ne (show 54 ≠ 57 by decide), aj_u2_ne (show 54 ≠ 56 by decide)]; exact h.1.1
        · rw [aj_u2_ne (show 56 ≠ 55 by decide), aj_u2_ne (show 56 ≠ 57 by decide), aj_u2_ne (show 57 ≠ 55 by decide)]
          by_cases hst : s = t
          · subst hst
            rw [aj_u2_at, aj_up_eq]
            refine ⟨rfl, by omega, fun i hi => ?_⟩
            by_cases hic : i = c s
            · subst hic
              rw [aj_u2_at, aj_u2_at, aj_u2_at, aj_u2_at, aj_u2_at, aj_u2_at]
              exact ⟨rfl, a2, rfl, a4, rfl⟩
            · have hne : 16 * s + i ≠ 16 * s + c s := by omega
              rw [aj_u2_n2 hne, aj_u2_n2 hne, aj_u2_n2 hne, aj_u2_ne (show 57 ≠ 56 by decide), aj_u2_n2 hic, aj_u2_n2 hic, aj_u2_n2 hic]
              exact hct.2.2 i (by omega)
          · rw [aj_u2_n2 hst, aj_u2_ne (show 55 ≠ 57 by decide), aj_u2_ne (show 55 ≠ 56 by decide), aj_up_ne hst, aj_u2_ne hst, aj_u2_ne hst, aj_u2_ne hst]
            have hcs := h.1.2.2 s hs
            refine ⟨hcs.1, hcs.2.1, fun i hi => ?_⟩
            have h16s := hcs.2.1
            have hne : 16 * s + i ≠ 16 * t + c t := by omega
            rw [aj_u2_n2 hne, aj_u2_n2 hne, aj_u2_n2 hne, aj_u2_ne (show 57 ≠ 56 by decide)]
            exact hcs.2.2 i hi
        · rw [aj_u2_ne (show 54 ≠ 55 by decide), aj_u2_ne (show 54 ≠ 57 by decide), aj_u2_ne (show 54 ≠ 56 by decide)]; exact h.2.1.1
        · rw [aj_u2_ne (show 59 ≠ 55 by decide), aj_u2_ne (show 59 ≠ 57 by decide), aj_u2_ne (show 59 ≠ 56 by decide)]; exact h.2.1.2.2 j hj
        · rw [aj_u2_ne (show 54 ≠ 55 by decide), aj_u2_ne (show 54 ≠ 57 by decide), aj_u2_ne (show 54 ≠ 56 by decide)]; exact h.2.2
      refine b_23_5 hJ (fun z => absurd z (by decide)) (zk_54 hz) (zr_54_1 hz) (zk_55 hz) (fun _ => vp_in_nI (by omega) (by decide)) (fun _ z => absurd z n16) (fun _ _ z => absurd z (nI_pos a2)) (fun _ _ _ z => absurd z (nI_pos (by omega))) (fun _ _ _ _ _ => vp_in_nI (by omega) (by decide)) (zr_54_2 hz) (zk_56 hz) (fun _ _ _ _ _ => ?_) (zr_54_3 hz) (zk_57 hz) (fun _ _ _ _ _ => ?_) (zr_54_4 hz) (fun _ _ _ _ _ z => go _ ?_) (fun _ _ _ _ _ z => go _ ?_) (fun _ _ _ _ z => absurd (nI_le (a := k) (b := 8) a4 (by decide)) z)
      · rw [ect, sm_16]; exact vp_in_nI (by omega) (by decide)
      · rw [ect, sm_16]; exact vp_in_nI (by omega) (by decide)
      · unfold fn_low
        rw [if_neg (fun q => z (by rw [q]; rfl))]
      · unfold fn_low
        rw [if_pos ((nI_eq (a := k) (b := 8) (by omega) (by decide)).mp z)]
    · have hq := h2 (by
        rintro ⟨s, x, k, a1, a2, a3, a4, a5, a6, a7⟩
        have : t = s := (nI_eq (by omega) (by omega)).mp a2
        subst this
        exact hok ⟨x, k, a3, a4, a5, a6, a7⟩)
      have no : ¬ I 55 (nI t).toNatClampNeg = 16 → ¬ x2 < 0 → ¬ x5 < 0 → x5 ≤ 8 → False := by
        intro b1 b2 b3 b4
        obtain ⟨x, hx, rfl⟩ := nI_of b2
        obtain ⟨k, hk, rfl⟩ := nI_of b3
        refine hok ⟨x, k, ?_, hx, rfl, (nI_leI (a := k) (b := 8) hk (by decide)).mp b4, rfl⟩
        have : c t ≠ 16 := fun q => b1 (by rw [ect, q]; rfl)
        omega
      exact b_23_5 hJ (fun _ => hq) (zk_54 hz) (zr_54_1 hz) (zk_55 hz) (fun _ => vp_in_nI (by omega) (by decide)) (fun _ _ => hq) (fun _ _ _ => hq) (fun _ _ _ _ => hq) (fun _ a b c d => (no a b c d).elim) (zr_54_2 hz) (zk_56 hz) (fun _ a b c d => (no a b c d).elim) (zr_54_3 hz) (zk_57 hz) (fun _ a b c d => (no a b c d).elim) (zr_54_4 hz) (fun _ a b c d => (no a b c d).elim) (fun _ a b c d => (no a b c d).elim) (fun _ _ _ _ _ => hq)
  · have hq := h2 (by rintro ⟨s, x, k, a1, a2, -⟩; exact hno s a1 a2)
    exact b_23_5 hJ (fun _ => hq) (zk_54 hz) (zr_54_1 hz) (zk_55 hz) (fun z => absurd rfl z) (fun z => absurd rfl z) (fun z => absurd rfl z) (fun z => absurd rfl z) (fun z => absurd rfl z) (zr_54_2 hz) (zk_56 hz) (fun z => absurd rfl z) (zr_54_3 hz) (zk_57 hz) (fun z => absurd rfl z) (zr_54_4 hz) (fun z => absurd rfl z) (fun z => absurd rfl z) (fun z => absurd rfl z)
theorem M_clear (hz : zAll Z) (h : mS I G n c du si da len b pl) (h1 : ∀ I' : aj_I, (∀ a, a < 54 → I' a = I a) → mS I' G 0 c du si da len b pl → Q (some (.int (nI n))) Z I' G) : aj_T (d + 1) mc ms 24 [.ref 54] Z I G Q := by
  refine t_24 fun J hJ => b_24_0 hJ (zk_54 hz) ?_
  rw [h.1.1]
  refine h1 _ (fun a ha => aj_u2_ne (by omega)) ⟨⟨aj_u2_at, by decide, fun t ht => absurd ht (by omega)⟩, ⟨?_, h.2.1.2.1, fun j hj => ?_⟩, ?_⟩
  · rw [aj_u2_n2 (by decide)]; exact h.2.1.1
  · rw [aj_u2_ne (by decide)]; exact h.2.1.2.2 j hj
  · rw [aj_u2_n2 (by decide)]; exact h.2.2
theorem M_place (hz : zAll Z) (h : mS I G n c du si da len b pl) (h1 : Q (some (.int pl)) Z I G) : aj_T (d + 1) mc ms 68 [.ref 54] Z I G Q :=
  t_68 fun J hJ => b_68_0 hJ (zk_54 hz) (by rw [h.2.2]; exact h1)
theorem M_tracks (hz : zAll Z) (h : mS I G n c du si da len b pl) (h1 : Q (some (.int (nI n))) Z I G) : aj_T (d + 1) mc ms 69 [.ref 54] Z I G Q :=
  t_69 fun J hJ => b_69_0 hJ (zk_54 hz) (by rw [h.1.1]; exact h1)
theorem M_samples (hz : zAll Z) (h : mS I G n c du si da len b pl) {x : Int32} (h1 : ∀ t, t < n → x = nI t → Q (some (.int (nI (c t)))) Z I G) (h2 : (∀ t, t < n → x ≠ nI t) → Q (some (.int (-1))) Z I G) : aj_T (d + 2) mc ms 70 [.ref 54, .int x] Z I G Q := by
  have hn := h.1.2.1
  refine t_70 fun J hJ => b_70_0 hJ (zk_54 hz) (M_isTrack hz h.1.1 hn (fun t ht e => ?_) (fun hno => b_70_5 hJ (fun _ => h2 hno) (zk_54 hz) (zr_54_1 hz) (zk_55 hz) (fun z => absurd rfl z) (fun z => absurd rfl z)))
  subst e
  refine b_70_5 hJ (fun z => absurd z (by decide)) (zk_54 hz) (zr_54_1 hz) (zk_55 hz) (fun _ => vp_in_nI (by omega) (by decide)) (fun _ => ?_)
  rw [nI_clamp (by omega), (h.1.2.2 t ht).1]
  exact h1 t ht rfl
theorem M_size (hz : zAll Z) (h : mS I G n c du si da len b pl) {x y : Int32} (h1 : ∀ t i, t < n → x = nI t → i < c t → y = nI i → Q (some (.int (nI (si t i)))) Z I G) (h2 : (¬ ∃ t i, t < n ∧ x = nI t ∧ i < c t ∧ y = nI i) → Q (some (.int (-1))) Z I G) : aj_T (d + 3) mc ms 71 [.ref 54, .int x, .int y] Z I G Q := by
  have hn := h.1.2.1
  refine t_71 fun J hJ => b_71_0 hJ (zk_54 hz) (M_isSample hz h.1 (fun t i ht e hi e2 => ?_) (fun hno => b_71_6 hJ (fun _ => h2 hno) (zk_54 hz) (zr_54_3 hz) (zk_57 hz) (fun z => absurd rfl z) (fun z => absurd rfl z)))
  subst e; subst e2
  have hct := h.1.2.2 t ht
  have h16 := hct.2.1
  refine b_71_6 hJ (fun z => absurd z (by decide)) (zk_54 hz) (zr_54_3 hz) (zk_57 hz) (fun _ => ?_) (fun _ => ?_)
  · rw [sm_16]; exact vp_in_nI (by omega) (by decide)
  · rw [sm_16, nI_clamp (by omega), (hct.2.2 i hi).2.2.1]
    exact h1 t i ht rfl hi rfl
theorem M_bytes (hz : zAll Z) (h : mS I G n c du si da len b pl) {x y : Int32} (h1 : ∀ t i, t < n → x = nI t → i < c t → y = nI i → Q (some (.long (da t i))) Z I G) (h2 : (¬ ∃ t i, t < n ∧ x = nI t ∧ i < c t ∧ y = nI i) → Q (some (.long 0)) Z I G) : aj_T (d + 3) mc ms 73 [.ref 54, .int x, .int y] Z I G Q := by
  have hn := h.1.2.1
  refine t_73 fun J hJ => b_73_0 hJ (zk_54 hz) (M_isSample hz h.1 (fun t i ht e hi e2 => ?_) (fun hno => b_73_6 hJ (fun _ => h2 hno) (zk_54 hz) (zr_54_4 hz) (zk_58 hz) (fun z => absurd rfl z) (fun z => absurd rfl z)))
  subst e; subst e2
  have hct := h.1.2.2 t ht
  have h16 := hct.2.1
  refine b_73_6 hJ (fun z => absurd z (by decide)) (zk_54 hz) (zr_54_4 hz) (zk_58 hz) (fun _ => ?_) (fun _ => ?_)
  · rw [sm_16]; exact vp_in_nI (by omega) (by decide)
  · rw [sm_16, nI_clamp (by omega), (hct.2.2 i hi).2.2.2.2]
    exact h1 t i ht rfl hi rfl
theorem M_time (hz : zAll Z) (h : mS I G n c du si da len b pl) {x y : Int32} (h1 : ∀ t i, t < n → x = nI t → i ≤ c t → y = nI i → Q (some (.long (lN (fn_sum (du t) i)))) Z I G) (h2 : (¬ ∃ t i, t < n ∧ x = nI t ∧ i ≤ c t ∧ y = nI i) → Q (some (.long (-1))) Z I G) : aj_T (d + 2) mc ms 72 [.ref 54, .int x, .int y] Z I G Q := by
  have hn := h.1.2.1
  refine t_72 fun J hJ => b_72_0 hJ (zk_54 hz) (M_isTrack hz h.1.1 hn (fun t ht e => ?_) (fun hno => ?_))
  · subst e
    have hct := h.1.2.2 t ht
    have h16 := hct.2.1
    have ect : I 55 (nI t).toNatClampNeg = nI (c t) := by rw [nI_clamp (by omega)]; exact hct.1
    rcases nI_ix y (n := c t + 1) (by omega) with ⟨i, hi, rfl⟩ | ⟨hy, hy2⟩
    · have key : ∀ (k j : Nat) (w4 : Option Value), k + j = i → J 31 [some (.ref 54), some (.int (nI t)), some (.int (nI i)), some (.long (lN (fn_sum (du t) j))), w4, some (.int (nI j))] [] Z I G (0, 0) := by
        intro k
        induction k with
        | zero =>
          intro j w4 hj
          have hj : j = i := by omega
          subst hj
          exact b_72_31 hJ (fun _ => h1 t j ht rfl (by omega) rfl) (zk_54 hz) (zr_54_2 hz) (zk_56 hz) (fun z => absurd (nI_le (Nat.le_refl j) (by omega)) z) (fun z => absurd (nI_le (Nat.le_refl j) (by omega)) z)
        | succ k ih =>
          intro j w4 hj
          have hdj := hct.2.2 j (by omega)
          refine b_72_31 hJ (fun z => absurd z (nI_ge (by omega) (by omega))) (zk_54 hz) (zr_54_2 hz) (zk_56 hz) (fun _ => ?_) (fun _ => ?_)
          · rw [sm_16]; exact vp_in_nI (by omega) (by decide)
          · rw [sm_16, nI_clamp (by omega), hdj.1, nI_l hdj.2.1, lN_add, nI_1]
            exact ih (j + 1) none (by omega)
      refine b_72_5 hJ (fun z => absurd z (by decide)) (fun _ z => absurd z (nI_pos (by omega))) (zk_54 hz) (zr_54_1 hz) (zk_55 hz) (fun _ _ => vp_in_nI (by omega) (by decide)) (fun _ _ _ => key i 0 none (by omega)) (fun _ _ z => absurd ?_ z)
      rw [ect]
      exact nI_le (by omega) (by omega)
    · have hq := h2 (by
        rintro ⟨s, i, a1, a2, a3, a4⟩
        have : t = s := (nI_eq (by omega) (by omega)).mp a2
        subst this
        exact hy i (by omega) a4)
      refine b_72_5 hJ (fun _ => hq) (fun _ _ => hq) (zk_54 hz) (zr_54_1 hz) (zk_55 hz) (fun _ _ => vp_in_nI (by omega) (by decide)) (fun _ a1 a2 => ?_) (fun _ _ _ => hq)
      rw [ect] at a2
      rcases hy2 with z | z
      · exact absurd z a1
      · have a3 := nI_lt (a := c t) (b := c t + 1) (by omega) (by omega)
        rw [Int32.lt_iff_toInt_lt] at a3
        rw [Int32.le_iff_toInt_le] at a2 z
        omega
  · have hq := h2 (by rintro ⟨s, i, a1, a2, -⟩; exact hno s a1 a2)
    exact b_72_5 hJ (fun _ => hq) (fun z => absurd rfl z) (zk_54 hz) (zr_54_1 hz) (zk_55 hz) (fun z => absurd rfl z) (fun z => absurd rfl z) (fun z => absurd rfl z)
theorem M_length (hz : zAll Z) (h : mS I G n c du si da len b pl) (h1 : Q (some (.int (nI len))) Z I G) : aj_T (d + 1) mc ms 74 [.ref 54] Z I G Q :=
  t_74 fun J hJ => b_74_0 hJ (zk_54 hz) (by rw [h.2.1.1]; exact h1)
theorem M_isByte (hz : zAll Z) (h : mF I len b) {x : Int32} (h1 : ∀ j, j < len → x = nI j → Q (some (.int 1)) Z I G) (h2 : (∀ j, j < len → x ≠ nI j) → Q (some (.int 0)) Z I G) : aj_T (d + 1) mc ms 75 [.ref 54, .int x] Z I G Q := by
  have hl := h.2.1
  rcases nI_ix x (n := len) (by omega) with ⟨t, ht, rfl⟩ | ⟨hx, hx2⟩
  · refine t_75 fun J hJ => b_75_0 hJ (fun z => absurd z (nI_pos (by omega))) (zk_54 hz) (fun _ z => ?_) (fun _ _ => h1 t ht rfl)
    rw [h.1] at z; exact absurd z (nI_ge ht (by omega))
  · refine t_75 fun J hJ => b_75_0 hJ (fun _ => h2 hx) (zk_54 hz) (fun _ _ => h2 hx) (fun a1 a2 => ?_)
    rw [h.1] at a2
    rcases hx2 with z | z
    · exact absurd z a1
    · exact absurd z a2
theorem M_at (hz : zAll Z) (h : mS I G n c du si da len b pl) {x : Int32} (h1 : ∀ j, j < len → x = nI j → Q (some (.int (nI (b j)))) Z I G) (h2 : (∀ j, j < len → x ≠ nI j) → Q (some (.int (-1))) Z I G) : aj_T (d + 2) mc ms 76 [.ref 54, .int x] Z I G Q := by
  have hl := h.2.1.2.1
  refine t_76 fun J hJ => b_76_0 hJ (zk_54 hz) (M_isByte hz h.2.1 (fun j hj e => ?_) (fun hno => b_76_5 hJ (fun _ => h2 hno) (zk_54 hz) (zr_54_6 hz) (zk_59 hz) (fun z => absurd rfl z) (fun z => absurd rfl z)))
  subst e
  refine b_76_5 hJ (fun z => absurd z (by decide)) (zk_54 hz) (zr_54_6 hz) (zk_59 hz) (fun _ => vp_in_nI (by omega) (by decide)) (fun _ => ?_)
  rw [nI_clamp (by omega), (h.2.1.2.2 j hj).2]
  exact h1 j hj rfl
theorem M_poke (hz : zAll Z) (h : mS I G n c du si da len b pl) {x y : Int32} (h1 : ∀ (j : Nat) (I' : aj_I), j < len → x = nI j → (∀ a, a < 54 → I' a = I a) → mS I' G n c du si da len (va_up b j (fn_b8 y)) pl → Q (some (.int 1)) Z I' G) (h2 : (∀ j, j < len → x ≠ nI j) → Q (some (.int 0)) Z I G) : aj_T (d + 2) mc ms 77 [.ref 54, .int x, .int y] Z I G Q := by
  have hl := h.2.1.2.1
  refine t_77 fun J hJ => b_77_0 hJ (zk_54 hz) (M_isByte hz h.2.1 (fun j hj e => ?_) (fun hno => b_77_5 hJ (zk_54 hz) (zr_54_6 hz) (zk_59 hz) (fun z => absurd rfl z) (fun z => absurd rfl z) (fun _ => h2 hno)))
  subst e
  refine b_77_5 hJ (zk_54 hz) (zr_54_6 hz) (zk_59 hz) (fun _ => vp_in_nI (by omega) (by decide)) (fun _ => ?_) (fun z => absurd z (by decide))
  rw [nI_clamp (by omega), fn_b8_and]
  refine h1 j _ hj rfl (fun a ha => aj_u2_ne (by omega)) ⟨⟨?_, h.1.2.1, fun t ht => ?_⟩, ⟨?_, hl, fun i hi => ?_⟩, ?_⟩
  · rw [aj_u2_ne (by decide)]; exact h.1.1
  · rw [aj_u2_ne (show 55 ≠ 59 by decide), aj_u2_ne (show 56 ≠ 59 by decide), aj_u2_ne (show 57 ≠ 59 by decide)]; exact h.1.2.2 t ht
  · rw [aj_u2_ne (by decide)]; exact h.2.1.1
  · by_cases hij : i = j
    · subst hij
      rw [aj_u2_at, aj_up_eq]
      exact ⟨fn_b8_lt y, rfl⟩
    · rw [aj_u2_n2 hij, aj_up_ne hij]; exact h.2.1.2.2 i hi
  · rw [aj_u2_ne (by decide)]; exact h.2.2
/-- w bytes of a number behind the file -/
theorem M_put (hz : zAll Z) (hf : mF I len b) {v : Int64} {w : Nat} (hw : w ≤ 8) (hfit : len + w ≤ 1200)
    (hQ : ∀ I' : aj_I, (∀ a, a ≠ 54 → a ≠ 59 → I' a = I a) → (∀ k, k ≠ 5 → I' 54 k = I 54 k) → mF I' (len + w) (fn_app b len v w) → Q none Z I' G) : aj_T (d + 1) mc ms 25 [.ref 54, .long v, .int (nI w)] Z I G Q := by
  refine t_25 fun J hJ => ?_
  have key : ∀ (k : Nat) (w2 w3 : Option Value) (I1 : aj_I), k ≤ w → (∀ a, a ≠ 54 → a ≠ 59 → I1 a = I a) → (∀ k, k ≠ 5 → I1 54 k = I 54 k) → mF I1 (len + (w - k)) (fn_app b len v w) → J 5 [some (.ref 54), some (.long v), w2, w3, some (.int (nI k - 1))] [] Z I1 G (0, 0) := by
    intro k
    induction k with
    | zero =>
      intro w2 w3 I1 hk hfr hfk hf1
      refine b_25_5 hJ (fun _ => ?_) (zk_54 hz) (zr_54_6 hz) (zk_59 hz) (fun h => absurd sm_m1 h) (fun h => absurd sm_m1 h)
      rw [Nat.sub_zero] at hf1
      exact hQ I1 hfr hfk hf1
    | succ k ih =>
      intro w2 w3 I1 hk hfr hfk hf1
      have hc := hf1.1
      refine b_25_5 hJ (fun h => absurd h ?_) (zk_54 hz) (zr_54_6 hz) (zk_59 hz) (fun _ => ?_) (fun _ => ?_)
      · rw [nI_pred]; exact nI_pos (by omega)
      · rw [hc]; exact vp_in_nI (by omega) (by decide)
      · rw [nI_pred, sm_neg, hc, nI_clamp (by omega), sm_8, fn_sbyte v (by omega)]
        refine ih _ _ _ (by omega) (fun a h1 h2 => ?_) (fun i hi => ?_) ⟨?_, by omega, fun j hj => ?_⟩
        · rw [aj_u2_ne h1, aj_u2_ne h2]; exact hfr a h1 h2
        · rw [aj_u2_n2 hi, aj_u2_n1 (by decide)]; exact hfk i hi
        · rw [aj_u2_at, aj_u2_n1 (by decide), hc, nI_1]
          congr 1; omega
        · rw [aj_u2_ne (by decide)]
          by_cases hjc : j = len + (w - (k + 1))
          · subst hjc
            have e : fn_app b len v w (len + (w - (k + 1))) = fn_by v k := by
              unfold fn_app
              rw [if_pos ⟨by omega, by omega⟩]
              congr 1; omega
            rw [aj_u2_at, e]
            exact ⟨fn_by_lt v k, rfl⟩
          · rw [aj_u2_n2 hjc]
            exact hf1.2.2 j (by omega)
  refine b_25_0 hJ (key w _ _ I (Nat.le_refl _) (fun _ _ _ => rfl) (fun _ _ => rfl) ⟨?_, by omega, fun j hj => ?_⟩)
  · rw [Nat.sub_self]; exact hf.1
  · rw [Nat.sub_self] at hj
    have e : fn_app b len v w j = b j := by unfold fn_app; rw [if_neg (by omega)]
    rw [e]
    exact hf.2.2 j hj
theorem mR.same {I' : aj_I} {G' : aj_G} (h : mR I G n c du si da) (h0 : I' 54 0 = I 54 0) (hI : ∀ a, 55 ≤ a → a ≤ 57 → I' a = I a) (hG : G' 58 = G 58) : mR I' G' n c du si da := by
  refine ⟨by rw [h0]; exact h.1, h.2.1, ?_⟩
  rw [hI 55 (by decide) (by decide), hI 56 (by decide) (by decide), hI 57 (by decide) (by decide), hG]
  exact h.2.2
theorem M_append (hz : zAll Z) (h : mS I G n c du si da len b pl) {v : Int64} {x : Int32} (h1 : ∀ (k : Nat) (I' : aj_I), x = nI k → 1 ≤ k → k ≤ 8 → len + k ≤ 1200 → (∀ a, a < 54 → I' a = I a) → mS I' G n c du si da (len + k) (fn_app b len v k) pl → Q (some (.int (nI (len + k)))) Z I' G) (h2 : (¬ ∃ k : Nat, x = nI k ∧ 1 ≤ k ∧ k ≤ 8 ∧ len + k ≤ 1200) → Q (some (.int (-1))) Z I G) : aj_T (d + 2) mc ms 78 [.ref 54, .long v, .int x] Z I G Q := by
  have hl := h.2.1.2.1
  refine t_78 fun J hJ => ?_
  by_cases hok : ∃ k : Nat, x = nI k ∧ 1 ≤ k ∧ k ≤ 8 ∧ len + k ≤ 1200
  · obtain ⟨k, rfl, a1, a2, a3⟩ := hok
    refine b_78_0 hJ (fun z => absurd z (nI_nlt (a := k) (b := 1) a1 (by omega))) (fun _ z => absurd z (nI_nlt (a := 8) (b := k) a2 (by decide))) (zk_54 hz) (fun _ _ _ => ?_) (fun _ _ z => absurd ?_ z)
    · refine M_put hz h.2.1 a2 a3 (fun I' hI hK hf => b_78_31 hJ (zk_54 hz) ?_)
      rw [hf.1]
      exact h1 k I' rfl a1 a2 a3 (fun a ha => hI a (by omega) (by omega)) ⟨h.1.same (hK 0 (by decide)) (fun a p1 p2 => hI a (by omega) (by omega)) rfl, hf, by rw [hK 7 (by decide)]; exact h.2.2⟩
    · rw [h.2.1.1, nI_add]; exact nI_le (a := len + k) (b := 1200) a3 (by decide)
  · refine b_78_0 hJ (fun _ => h2 hok) (fun _ _ => h2 hok) (zk_54 hz) (fun z1 z2 z3 => absurd ?_ hok) (fun _ _ _ => h2 hok)
    have h0 : ¬ x < 0 := by
      intro h0
      apply z1
      rw [Int32.lt_iff_toInt_lt] at h0 ⊢
      have e0 : (0 : Int32).toInt = 0 := by decide
      have e1 : (1 : Int32).toInt = 1 := by decide
      omega
    obtain ⟨k, hk, rfl⟩ := nI_of h0
    have a1 : ¬ k < 1 := fun z => z1 (nI_lt z (by decide))
    have a2 : ¬ 8 < k := fun z => z2 (nI_lt z hk)
    rw [h.2.1.1, nI_add] at z3
    exact ⟨k, rfl, by omega, by omega, (nI_leI (a := len + k) (b := 1200) (by omega) (by decide)).mp z3⟩
theorem M_cut (hz : zAll Z) (h : mS I G n c du si da len b pl) {x : Int32} (h1 : ∀ (k : Nat) (I' : aj_I), k ≤ len → x = nI k → (∀ a, a < 54 → I' a = I a) → mS I' G n c du si da k b pl → Q (some (.int 1)) Z I' G) (h2 : (∀ k, k ≤ len → x ≠ nI k) → Q (some (.int 0)) Z I G) : aj_T (d + 1) mc ms 79 [.ref 54, .int x] Z I G Q := by
  have hl := h.2.1.2.1
  refine t_79 fun J hJ => b_79_0 hJ (fun z => h2 (fun j hj e => ?_)) (zk_54 hz) (fun h3 h4 => ?_) (fun h3 h4 => h2 (fun j hj e => ?_))
  · rw [e] at z; exact nI_pos (by omega) z
  · rw [h.2.1.1] at h4
    obtain ⟨j, hj, rfl⟩ := nI_of h3
    rw [nI_leI hj (by omega)] at h4
    refine h1 j _ h4 rfl (fun a ha => aj_u2_ne (by omega)) ⟨h.1.same (aj_u2_n2 (by decide)) (fun a p1 p2 => aj_u2_ne (by omega)) rfl, ⟨aj_u2_at, by omega, fun i hi => ?_⟩, ?_⟩
    · rw [aj_u2_ne (by decide)]; exact h.2.1.2.2 i (by omega)
    · rw [aj_u2_n2 (by decide)]; exact h.2.2
  · rw [h.2.1.1, e] at h4; exact h4 (nI_le hj (by omega))
end MD
