/-! the class's state in mathematical words; Reel; the calls that don't write or read -/
theorem zTr_t {Z : aj_Z} (h : zAll Z) {t : Nat} (ht : t < 3) : zTr Z (5 + 4 * t) := by
  rcases (show t = 0 ∨ t = 1 ∨ t = 2 by omega) with rfl | rfl | rfl
  · exact ⟨zk_5 h, zr_5_0 h, zr_5_1 h, zr_5_2 h, zk_6 h, zk_7 h, zk_8 h⟩
  · exact ⟨zk_9 h, zr_9_0 h, zr_9_1 h, zr_9_2 h, zk_10 h, zk_11 h, zk_12 h⟩
  · exact ⟨zk_13 h, zr_13_0 h, zr_13_1 h, zr_13_2 h, zk_14 h, zk_15 h, zk_16 h⟩
theorem zrow_t {Z : aj_Z} (h : zAll Z) {t : Nat} (ht : t < 3) : Z.2.2 4 t = .ref (5 + 4 * t) := by
  rcases (show t = 0 ∨ t = 1 ∨ t = 2 by omega) with rfl | rfl | rfl
  · exact zr_4_0 h
  · exact zr_4_1 h
  · exact zr_4_2 h
theorem zBR_f {Z : aj_Z} (h : zAll Z) : zBR Z 17 18 := ⟨zk_17 h, zr_17_0 h, zk_18 h, by decide⟩
/-- reel and file and place, as the class holds them -/
def rC (I : aj_I) (G : aj_G) (n : Nat) (c : Nat → Nat) (du si : Nat → Nat → Nat) (da : Nat → Nat → Int64) : Prop := I 3 1 = nI n ∧ n ≤ 3 ∧ ∀ t, t < n → tC I G (5 + 4 * t) (c t) (du t) (si t) (da t)
def cS (I : aj_I) (G : aj_G) (n : Nat) (c : Nat → Nat) (du si : Nat → Nat → Nat) (da : Nat → Nat → Int64) (len : Nat) (b : Nat → Nat) (pl : Int32) : Prop := rC I G n c du si da ∧ fC I 17 18 len b ∧ I 20 1 = pl
theorem tC.same {I I' : aj_I} {G G' : aj_G} {o c : Nat} {du si : Nat → Nat} {da : Nat → Int64} (h : tC I G o c du si da) (h0 : I' o = I o) (h1 : I' (o + 1) = I (o + 1)) (h2 : I' (o + 2) = I (o + 2)) (h3 : G' (o + 3) = G (o + 3)) : tC I' G' o c du si da := by
  unfold tC at h ⊢
  rw [h0, h1, h2, h3]
  exact h
theorem rC.same {I I' : aj_I} {G G' : aj_G} {n : Nat} {c : Nat → Nat} {du si : Nat → Nat → Nat} {da : Nat → Nat → Int64} (h : rC I G n c du si da) (hI : ∀ a, 3 ≤ a → a ≤ 16 → I' a = I a) (hG : ∀ a, 3 ≤ a → a ≤ 16 → G' a = G a) : rC I' G' n c du si da := by
  refine ⟨by rw [hI 3 (by omega) (by omega)]; exact h.1, h.2.1, fun t ht => ?_⟩
  have hn := h.2.1
  exact (h.2.2 t ht).same (hI _ (by omega) (by omega)) (hI _ (by omega) (by omega)) (hI _ (by omega) (by omega)) (hG _ (by omega) (by omega))
theorem fC.same {I I' : aj_I} {o q n : Nat} {b : Nat → Nat} (h : fC I o q n b) (h0 : I' o = I o) (h1 : I' q = I q) : fC I' o q n b := by
  unfold fC at h ⊢
  rw [h0, h1]
  exact h
section RL
variable {Z : aj_Z} {I : aj_I} {G : aj_G} {Q : aj_Q} {n : Nat} {c : Nat → Nat} {du si : Nat → Nat → Nat} {da : Nat → Nat → Int64} {len : Nat} {b : Nat → Nat} {pl : Int32} {d mc ms : Nat}
theorem T_find (hz : zAll Z) (hr : rC I G n c du si da) {x : Int32} (h1 : ∀ t, t < n → x = nI t → Q (some (.ref (5 + 4 * t))) Z I G) (h2 : (∀ t, t < n → x ≠ nI t) → Q (some .null) Z I G) : aj_T (d + 1) mc ms 112 [.ref 3, .int x] Z I G Q := by
  have hn := hr.2.1
  rcases nI_ix x (n := n) (by omega) with ⟨t, ht, rfl⟩ | ⟨hx, hx2⟩
  · refine t_112 fun J hJ => b_112_0 (q1 := 5 + 4 * t) hJ (fun h => absurd h (nI_pos (by omega))) (zk_3 hz) (fun _ h => ?_) (zr_3_0 hz) (zk_4 hz) (fun _ _ => vp_in_nI (by omega) (by decide)) (fun _ _ => ?_) (fun _ _ => h1 t ht rfl)
    · rw [hr.1] at h; exact absurd h (nI_ge ht (by omega))
    · rw [nI_clamp (by omega)]; exact zrow_t hz (by omega)
  · have no : ¬ x < 0 → ¬ I 3 1 ≤ x → False := by
      intro a1 a2
      rw [hr.1] at a2
      rcases hx2 with h | h
      · exact a1 h
      · exact a2 h
    exact t_112 fun J hJ => b_112_0 (q1 := 5) hJ (fun _ => h2 hx) (zk_3 hz) (fun _ _ => h2 hx) (zr_3_0 hz) (zk_4 hz) (fun a1 a2 => (no a1 a2).elim) (fun a1 a2 => (no a1 a2).elim) (fun a1 a2 => (no a1 a2).elim)
/-- a track more -/
theorem T_openTrack (hz : zAll Z) (hr : rC I G n c du si da) (hn3 : n < 3) (hQ : ∀ I' : aj_I, (∀ a, a ≠ 3 → a ≠ 5 + 4 * n → I' a = I a) → rC I' G (n + 1) (va_up c n 0) du si da → Q (some (.int (nI n))) Z I' G) : aj_T (d + 2) mc ms 113 [.ref 3] Z I G Q := by
  have hc3 : I 3 1 < 3 := by rw [hr.1]; exact nI_lt (a := n) (b := 3) hn3 (by decide)
  refine t_113 fun J hJ => b_113_0 (q1 := 5 + 4 * n) hJ (zk_3 hz) (zr_3_0 hz) (zk_4 hz) (fun _ => ?_) (fun _ => ?_) (zTr_t hz hn3).1 (fun _ => ?_) (fun h => absurd hc3 h)
  · rw [hr.1]; exact vp_in_nI hn3 (by decide)
  · rw [hr.1, nI_clamp (by omega)]; exact zrow_t hz hn3
  · refine T_dropSamples (zTr_t hz hn3) (b_113_22 hJ (zk_3 hz) ?_)
    have e : aj_u2 I (5 + 4 * n) 3 0 3 1 = nI n := by rw [aj_u2_n1 (by omega), hr.1]
    rw [aj_u2_at, e, nI_1, nI_pred]
    refine hQ _ (fun a h1 h2 => by rw [aj_u2_ne h1, aj_u2_ne h2]) ⟨aj_u2_at, by omega, fun t ht => ?_⟩
    by_cases htn : t = n
    · subst htn
      rw [aj_up_eq]
      refine ⟨?_, by decide, fun i hi => absurd hi (by omega)⟩
      rw [aj_u2_ne (by omega), aj_u2_at]
      rfl
    · rw [aj_up_ne htn]
      refine (hr.2.2 t (by omega)).same ?_ ?_ ?_ rfl
      · rw [aj_u2_ne (by omega), aj_u2_ne (by omega)]
      · rw [aj_u2_ne (by omega), aj_u2_ne (by omega)]
      · rw [aj_u2_ne (by omega), aj_u2_ne (by omega)]
theorem T_openTrackNo (hz : zAll Z) (hr : rC I G n c du si da) (hn3 : n = 3) (hQ : Q (some (.int (-1))) Z I G) : aj_T (d + 2) mc ms 113 [.ref 3] Z I G Q := by
  have hc3 : ¬ I 3 1 < 3 := by rw [hr.1, hn3]; exact nI_nlt (a := 3) (b := 3) (Nat.le_refl _) (by decide)
  exact t_113 fun J hJ => b_113_0 (q1 := 5) hJ (zk_3 hz) (zr_3_0 hz) (zk_4 hz) (fun h => absurd h hc3) (fun h => absurd h hc3) (zk_5 hz) (fun h => absurd h hc3) (fun _ => hQ)
/-! the public calls -/
theorem C_track (hz : zAll Z) (h : cS I G n c du si da len b pl) (h1 : ∀ I' : aj_I, n < 3 → (∀ a, 54 ≤ a → I' a = I a) → cS I' G (n + 1) (va_up c n 0) du si da len b pl → Q (some (.int (nI n))) Z I' G) (h2 : n = 3 → Q (some (.int (-1))) Z I G) : aj_T (d + 3) mc ms 1 [.ref 2] Z I G Q := by
  have hn := h.1.2.1
  refine t_1 fun J hJ => b_1_0 hJ (zk_2 hz) (zr_2_0 hz) (zk_3 hz) ?_
  by_cases hn3 : n = 3
  · exact T_openTrackNo hz h.1 hn3 (b_1_7 hJ (h2 hn3))
  · refine T_openTrack hz h.1 (by omega) (fun I' hf hr => b_1_7 hJ (h1 I' (by omega) (fun a ha => hf a (by omega) (by omega)) ⟨hr, h.2.1.same (hf 17 (by omega) (by omega)) (hf 18 (by omega) (by omega)), by rw [hf 20 (by omega) (by omega)]; exact h.2.2⟩))
theorem C_sample (hz : zAll Z) (h : cS I G n c du si da len b pl) {x1 x2 x5 : Int32} {v : Int64}
    (h1 : ∀ (t x k : Nat) (I' : aj_I) (G' : aj_G), t < n → x1 = nI t → c t < 16 → x < 2 ^ 31 → x2 = nI x → k ≤ 8 → x5 = nI k → (∀ a, 54 ≤ a → I' a = I a ∧ G' a = G a) → cS I' G' n (va_up c t (c t + 1)) (aj_u2 du t (c t) x) (aj_u2 si t (c t) k) (aj_u2 da t (c t) (fn_low v k)) len b pl → Q (some (.int (nI (c t)))) Z I' G')
    (h2 : (¬ ∃ t x k : Nat, t < n ∧ x1 = nI t ∧ c t < 16 ∧ x < 2 ^ 31 ∧ x2 = nI x ∧ k ≤ 8 ∧ x5 = nI k) → Q (some (.int (-1))) Z I G) : aj_T (d + 3) mc ms 2 [.ref 2, .int x1, .int x2, .long v, .int x5] Z I G Q := by
  have hn := h.1.2.1
  refine t_2 fun J hJ => b_2_0 hJ (zk_2 hz) (zr_2_0 hz) (zk_3 hz) (T_find hz h.1 (fun t ht e => ?_) (fun hno => ?_))
  · have htr := h.1.2.2 t ht
    have hzt := zTr_t hz (show t < 3 by omega)
    have hc16 := htr.2.1
    refine b_2_8 hJ hzt.1 ?_
    by_cases hok : ∃ x k : Nat, c t < 16 ∧ x < 2 ^ 31 ∧ x2 = nI x ∧ k ≤ 8 ∧ x5 = nI k
    · obtain ⟨x, k, a1, a2, rfl, a4, rfl⟩ := hok
      refine T_addSample hzt htr a1 a2 a4 (fun I' G' hI hG hT => b_2_28 hJ (h1 t x k I' G' ht e a1 a2 rfl a4 rfl (fun a ha => ⟨hI a (by omega) (by omega) (by omega), hG a (by omega)⟩) ⟨⟨?_, hn, fun s hs => ?_⟩, h.2.1.same (hI _ (by omega) (by omega) (by omega)) (hI _ (by omega) (by omega) (by omega)), ?_⟩))
      · rw [hI 3 (by omega) (by omega) (by omega)]; exact h.1.1
      · by_cases hst : s = t
        · subst hst
          rw [aj_up_eq, aj_u2_eq, aj_u2_eq, aj_u2_eq]
          exact hT
        · rw [aj_up_ne hst, aj_u2_ne hst, aj_u2_ne hst, aj_u2_ne hst]
          exact (h.1.2.2 s hs).same (hI _ (by omega) (by omega) (by omega)) (hI _ (by omega) (by omega) (by omega)) (hI _ (by omega) (by omega) (by omega)) (hG _ (by omega))
      · rw [hI 20 (by omega) (by omega) (by omega)]; exact h.2.2
    · refine T_addSampleNo hzt htr ?_ (b_2_28 hJ (h2 ?_))
      · by_cases b1 : c t = 16
        · exact Or.inl b1
        · by_cases b2 : x2 < 0
          · exact Or.inr (Or.inl b2)
          · by_cases b3 : x5 < 0
            · exact Or.inr (Or.inr (Or.inl b3))
            · refine Or.inr (Or.inr (Or.inr (fun b4 => hok ?_)))
              obtain ⟨x, hx, rfl⟩ := nI_of b2
              obtain ⟨k, hk, rfl⟩ := nI_of b3
              exact ⟨x, k, by omega, hx, rfl, (nI_leI (a := k) (b := 8) hk (by decide)).mp b4, rfl⟩
      · rintro ⟨s, x, k, a1, a2, a3, a4, a5, a6, a7⟩
        have : s = t := (nI_eq (by omega) (by omega)).mp (a2.symm.trans e)
        subst this
        exact hok ⟨x, k, a3, a4, a5, a6, a7⟩
  · refine b_2_8N hJ (b_2_28 hJ (h2 ?_))
    rintro ⟨s, x, k, a1, a2, -⟩
    exact hno s a1 a2
theorem C_clear (hz : zAll Z) (h : cS I G n c du si da len b pl) (h1 : ∀ I' : aj_I, (∀ a, 54 ≤ a → I' a = I a) → cS I' G 0 c du si da len b pl → Q (some (.int (nI n))) Z I' G) : aj_T (d + 2) mc ms 3 [.ref 2] Z I G Q := by
  refine t_3 fun J hJ => b_3_0 hJ (zk_2 hz) (zr_2_0 hz) (zk_3 hz) (t_114 fun J2 hJ2 => b_114_0 hJ2 (zk_3 hz) (b_3_7 hJ ?_))
  rw [h.1.1]
  refine h1 _ (fun a ha => aj_u2_ne (by omega)) ⟨⟨aj_u2_at, by decide, fun t ht => absurd ht (by omega)⟩, h.2.1.same (aj_u2_ne (by decide)) (aj_u2_ne (by decide)), ?_⟩
  rw [aj_u2_ne (by decide)]
  exact h.2.2
theorem C_place (hz : zAll Z) (h : cS I G n c du si da len b pl) (h1 : Q (some (.int pl)) Z I G) : aj_T (d + 2) mc ms 6 [.ref 2] Z I G Q :=
  t_6 fun J hJ => b_6_0 hJ (zk_2 hz) (zr_2_2 hz) (zk_19 hz) (t_103 fun J2 hJ2 => b_103_0 hJ2 (zk_19 hz) (zr_19_1 hz) (zk_20 hz) (b_6_7 hJ (by rw [h.2.2]; exact h1)))
theorem C_tracks (hz : zAll Z) (h : cS I G n c du si da len b pl) (h1 : Q (some (.int (nI n))) Z I G) : aj_T (d + 2) mc ms 7 [.ref 2] Z I G Q :=
  t_7 fun J hJ => b_7_0 hJ (zk_2 hz) (zr_2_0 hz) (zk_3 hz) (t_111 fun J2 hJ2 => b_111_0 hJ2 (zk_3 hz) (b_7_7 hJ (by rw [h.1.1]; exact h1)))
theorem C_samples (hz : zAll Z) (h : cS I G n c du si da len b pl) {x : Int32} (h1 : ∀ t, t < n → x = nI t → Q (some (.int (nI (c t)))) Z I G) (h2 : (∀ t, t < n → x ≠ nI t) → Q (some (.int (-1))) Z I G) : aj_T (d + 3) mc ms 8 [.ref 2, .int x] Z I G Q := by
  have hn := h.1.2.1
  exact t_8 fun J hJ => b_8_0 hJ (zk_2 hz) (zr_2_0 hz) (zk_3 hz) (T_find hz h.1 (fun t ht e => b_8_8 hJ (zTr_t hz (by omega)).1 (T_sampleCount (zTr_t hz (by omega)) (h.1.2.2 t ht) (b_8_21 hJ (h1 t ht e)))) (fun hno => b_8_8N hJ (b_8_21 hJ (h2 hno))))
theorem C_size (hz : zAll Z) (h : cS I G n c du si da len b pl) {x y : Int32} (h1 : ∀ t i, t < n → x = nI t → i < c t → y = nI i → Q (some (.int (nI (si t i)))) Z I G) (h2 : (¬ ∃ t i, t < n ∧ x = nI t ∧ i < c t ∧ y = nI i) → Q (some (.int (-1))) Z I G) : aj_T (d + 3) mc ms 9 [.ref 2, .int x, .int y] Z I G Q := by
  have hn := h.1.2.1
  refine t_9 fun J hJ => b_9_0 hJ (zk_2 hz) (zr_2_0 hz) (zk_3 hz) (T_find hz h.1 (fun t ht e => b_9_8 hJ (zTr_t hz (by omega)).1 ?_) (fun hno => b_9_8N hJ (b_9_22 hJ (h2 ?_))))
  · have htr := h.1.2.2 t ht
    have h16 := htr.2.1
    rcases nI_ix y (n := c t) (by omega) with ⟨i, hi, rfl⟩ | ⟨hy, hy2⟩
    · exact T_sizeOf (zTr_t hz (by omega)) htr hi (b_9_22 hJ (h1 t i ht e hi rfl))
    · refine T_sizeOfNo (zTr_t hz (by omega)) htr hy2 (b_9_22 hJ (h2 ?_))
      rintro ⟨s, i, a1, a2, a3, a4⟩
      have : s = t := (nI_eq (by omega) (by omega)).mp (a2.symm.trans e)
      subst this
      exact hy i a3 a4
  · rintro ⟨s, i, a1, a2, -⟩
    exact hno s a1 a2
theorem C_bytes (hz : zAll Z) (h : cS I G n c du si da len b pl) {x y : Int32} (h1 : ∀ t i, t < n → x = nI t → i < c t → y = nI i → Q (some (.long (da t i))) Z I G) (h2 : (¬ ∃ t i, t < n ∧ x = nI t ∧ i < c t ∧ y = nI i) → Q (some (.long 0)) Z I G) : aj_T (d + 3) mc ms 11 [.ref 2, .int x, .int y] Z I G Q := by
  have hn := h.1.2.1
  refine t_11 fun J hJ => b_11_0 hJ (zk_2 hz) (zr_2_0 hz) (zk_3 hz) (T_find hz h.1 (fun t ht e => b_11_8 hJ (zTr_t hz (by omega)).1 ?_) (fun hno => b_11_8N hJ (b_11_22 hJ (h2 ?_))))
  · have htr := h.1.2.2 t ht
    have h16 := htr.2.1
    rcases nI_ix y (n := c t) (by omega) with ⟨i, hi, rfl⟩ | ⟨hy, hy2⟩
    · exact T_bytesOf (zTr_t hz (by omega)) htr hi (b_11_22 hJ (h1 t i ht e hi rfl))
    · refine T_bytesOfNo (zTr_t hz (by omega)) htr hy2 (b_11_22 hJ (h2 ?_))
      rintro ⟨s, i, a1, a2, a3, a4⟩
      have : s = t := (nI_eq (by omega) (by omega)).mp (a2.symm.trans e)
      subst this
      exact hy i a3 a4
  · rintro ⟨s, i, a1, a2, -⟩
    exact hno s a1 a2
theorem C_time (hz : zAll Z) (h : cS I G n c du si da len b pl) {x y : Int32} (h1 : ∀ t i, t < n → x = nI t → i ≤ c t → y = nI i → Q (some (.long (lN (fn_sum (du t) i)))) Z I G) (h2 : (¬ ∃ t i, t < n ∧ x = nI t ∧ i ≤ c t ∧ y = nI i) → Q (some (.long (-1))) Z I G) : aj_T (d + 3) mc ms 10 [.ref 2, .int x, .int y] Z I G Q := by
  have hn := h.1.2.1
  refine t_10 fun J hJ => b_10_0 hJ (zk_2 hz) (zr_2_0 hz) (zk_3 hz) (T_find hz h.1 (fun t ht e => b_10_8 hJ (zTr_t hz (by omega)).1 ?_) (fun hno => b_10_8N hJ (b_10_24 hJ (h2 ?_))))
  · have htr := h.1.2.2 t ht
    have h16 := htr.2.1
    rcases nI_ix y (n := c t + 1) (by omega) with ⟨i, hi, rfl⟩ | ⟨hy, hy2⟩
    · exact T_timeOf (zTr_t hz (by omega)) htr (by omega) (b_10_24 hJ (h1 t i ht e (by omega) rfl))
    · refine T_timeOfNo (zTr_t hz (by omega)) htr ?_ (b_10_24 hJ (h2 ?_))
      · rcases hy2 with a | a
        · exact Or.inl a
        · refine Or.inr ?_
          have a3 := nI_lt (a := c t) (b := c t + 1) (by omega) (by omega)
          rw [Int32.lt_iff_toInt_lt] at a3 ⊢
          rw [Int32.le_iff_toInt_le] at a
          omega
      rintro ⟨s, i, a1, a2, a3, a4⟩
      have : s = t := (nI_eq (by omega) (by omega)).mp (a2.symm.trans e)
      subst this
      exact hy i (by omega) a4
  · rintro ⟨s, i, a1, a2, -⟩
    exact hno s a1 a2
theorem C_length (hz : zAll Z) (h : cS I G n c du si da len b pl) (h1 : Q (some (.int (nI len))) Z I G) : aj_T (d + 2) mc ms 12 [.ref 2] Z I G Q :=
  t_12 fun J hJ => b_12_0 hJ (zk_2 hz) (zr_2_1 hz) (zk_17 hz) (T_byteCount (zBR_f hz) h.2.1 (b_12_7 hJ h1))
theorem C_at (hz : zAll Z) (h : cS I G n c du si da len b pl) {x : Int32} (h1 : ∀ j, j < len → x = nI j → Q (some (.int (nI (b j)))) Z I G) (h2 : (∀ j, j < len → x ≠ nI j) → Q (some (.int (-1))) Z I G) : aj_T (d + 2) mc ms 13 [.ref 2, .int x] Z I G Q :=
  t_13 fun J hJ => b_13_0 hJ (zk_2 hz) (zr_2_1 hz) (zk_17 hz) (T_byteAt (zBR_f hz) h.2.1 (fun j hj e => b_13_8 hJ (h1 j hj e)) (fun hno => b_13_8 hJ (h2 hno)))
theorem C_poke (hz : zAll Z) (h : cS I G n c du si da len b pl) {x y : Int32} (h1 : ∀ (j : Nat) (I' : aj_I), j < len → x = nI j → (∀ a, 54 ≤ a → I' a = I a) → cS I' G n c du si da len (va_up b j (fn_b8 y)) pl → Q (some (.int 1)) Z I' G) (h2 : (∀ j, j < len → x ≠ nI j) → Q (some (.int 0)) Z I G) : aj_T (d + 2) mc ms 14 [.ref 2, .int x, .int y] Z I G Q :=
  t_14 fun J hJ => b_14_0 hJ (zk_2 hz) (zr_2_1 hz) (zk_17 hz) (T_setByte (zBR_f hz) h.2.1 (fun j I' hj e hI hf => b_14_9 hJ (by decide) (h1 j I' hj e (fun a ha => hI a (by omega)) ⟨h.1.same (fun a h3 h4 => hI a (by omega)) (fun _ _ _ => rfl), hf, by rw [hI 20 (by omega)]; exact h.2.2⟩)) (fun hno => b_14_9 hJ (by decide) (h2 hno)))
theorem C_append (hz : zAll Z) (h : cS I G n c du si da len b pl) {v : Int64} {x : Int32} (h1 : ∀ (k : Nat) (I' : aj_I), x = nI k → 1 ≤ k → k ≤ 8 → len + k ≤ 1200 → (∀ a, 54 ≤ a → I' a = I a) → cS I' G n c du si da (len + k) (fn_app b len v k) pl → Q (some (.int (nI (len + k)))) Z I' G) (h2 : (¬ ∃ k : Nat, x = nI k ∧ 1 ≤ k ∧ k ≤ 8 ∧ len + k ≤ 1200) → Q (some (.int (-1))) Z I G) : aj_T (d + 2) mc ms 15 [.ref 2, .long v, .int x] Z I G Q := by
  refine t_15 fun J hJ => b_15_0 hJ (zk_2 hz) (zr_2_1 hz) (zk_17 hz) ?_
  by_cases hok : ∃ k : Nat, x = nI k ∧ 1 ≤ k ∧ k ≤ 8 ∧ len + k ≤ 1200
  · obtain ⟨k, rfl, a1, a2, a3⟩ := hok
    exact T_addNumber (zBR_f hz) h.2.1 a1 a2 a3 (fun I' hI hf => b_15_9 hJ (h1 k I' rfl a1 a2 a3 (fun a ha => hI a (by omega) (by omega)) ⟨h.1.same (fun a h3 h4 => hI a (by omega) (by omega)) (fun _ _ _ => rfl), hf, by rw [hI 20 (by omega) (by omega)]; exact h.2.2⟩))
  · exact T_addNumberNo (zBR_f hz) h.2.1 hok (b_15_9 hJ (h2 hok))
theorem C_cut (hz : zAll Z) (h : cS I G n c du si da len b pl) {x : Int32} (h1 : ∀ (k : Nat) (I' : aj_I), k ≤ len → x = nI k → (∀ a, 54 ≤ a → I' a = I a) → cS I' G n c du si da k b pl → Q (some (.int 1)) Z I' G) (h2 : (∀ k, k ≤ len → x ≠ nI k) → Q (some (.int 0)) Z I G) : aj_T (d + 2) mc ms 16 [.ref 2, .int x] Z I G Q :=
  t_16 fun J hJ => b_16_0 hJ (zk_2 hz) (zr_2_1 hz) (zk_17 hz) (T_keepFirst (zBR_f hz) h.2.1 (fun k I' hk e hI hf => b_16_8 hJ (by decide) (h1 k I' hk e (fun a ha => hI a (by omega)) ⟨h.1.same (fun a h3 h4 => hI a (by omega)) (fun _ _ _ => rfl), hf, by rw [hI 20 (by omega)]; exact h.2.2⟩)) (fun hno => b_16_8 hJ (by decide) (h2 hno)))
end RL
