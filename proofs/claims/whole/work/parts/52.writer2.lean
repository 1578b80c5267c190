/-! Writer: sizes of all, places of the chunks -/
section WS
variable {Z : aj_Z} {I : aj_I} {G : aj_G} {Q : aj_Q} {n : Nat} {c : Nat → Nat} {du si : Nat → Nat → Nat} {da : Nat → Nat → Int64} {per : Nat} {far wide : Bool} {d mc ms : Nat}
theorem T_moovSize (hz : zAll Z) (hr : rC I G n c du si da) (hw : zW I per far wide) (hQ : Q (some (.int (nI (w_moov c du per (w_pw far) n)))) Z I G) : aj_T (d + 5) mc ms 166 [.ref 52] Z I G Q := by
  have hn := hr.2.1
  refine t_166 fun J hJ => b_166_0 hJ ?_
  have key : ∀ (k t : Nat) (w3 : Option Value), k + t = 3 → J 5 [some (.ref 52), some (.int (nI (w_moov c du per (w_pw far) (if t < n then t else n)))), some (.int (nI t)), w3] [] Z I G (0, 0) := by
    intro k
    induction k with
    | zero =>
      intro t w3 ht
      have ht : t = 3 := by omega
      subst ht
      rw [if_neg (by omega)]
      exact b_166_5 hJ (fun _ => hQ) (zk_52 hz) (zr_52_0 hz) (zk_3 hz) (fun h => absurd (nI_le (a := 3) (b := 3) (Nat.le_refl _) (by decide)) h)
    | succ k ih =>
      intro t w3 ht
      refine b_166_5 hJ (fun h => absurd h (nI_ge (a := t) (b := 3) (by omega) (by decide))) (zk_52 hz) (zr_52_0 hz) (zk_3 hz) (fun _ => T_find hz hr (fun t' ht' e => ?_) (fun hno => ?_))
      · have : t = t' := (nI_eq (by omega) (by omega)).mp e
        subst this
        rw [if_pos ht']
        refine b_166_18 hJ (zk_52 hz) (T_stblSize hz (zTr_t hz (by omega)) (hr.2.2 t ht') hw (b_166_31 hJ ?_))
        rw [show (8 : Int32) = nI 8 from rfl, nI_add, nI_add, nI_1]
        have := ih (t + 1) (some (.ref (5 + 4 * t))) (by omega)
        have e2 : (if t + 1 < n then t + 1 else n) = t + 1 := by split <;> omega
        rw [e2] at this
        exact this
      · have htn : ¬ t < n := fun q => hno t q rfl
        refine b_166_18N hJ ?_
        rw [nI_1]
        have := ih (t + 1) (some .null) (by omega)
        rw [if_neg (by omega)] at this
        rw [if_neg htn]
        exact this
  have := key 3 0 none (by omega)
  have e0 : (if 0 < n then 0 else n) = 0 := by split <;> omega
  rw [e0] at this
  exact this
theorem T_chunkBytes (hz : zAll Z) {o ct : Nat} {dut sit : Nat → Nat} {dat : Nat → Int64} (ho : zTr Z o) (ht : tC I G o ct dut sit dat) (hw : zW I per far wide) {k : Nat} (hk : k ≤ 16) (hQ : Q (some (.int (nI (w_ck ct sit per k)))) Z I G) : aj_T (d + 3) mc ms 168 [.ref 52, .ref o, .int (nI k)] Z I G Q := by
  have h16 := ht.2.1
  have hp1 := hw.2.1
  have hp2 := hw.2.2.1
  have hkp : k * per ≤ 16 * 16 := Nat.mul_le_mul (by omega) hp2
  have hce := w_ce_le (c := ct) (per := per) (k := k)
  refine t_168 fun J hJ => b_168_0 hJ (zk_52 hz) (T_chunkEnd hz ho ht hw hk (b_168_6 hJ (zk_52 hz) ?_))
  rw [hw.1, pk_mul]
  have key : ∀ (m j : Nat) (w0 w2 : Option Value), m + j = w_ce ct per k - k * per → J 18 [w0, some (.ref o), w2, some (.int (nI (w_ce ct per k))), some (.int (nI (w_cb sit (k * per) j))), some (.int (nI (k * per + j)))] [] Z I G (0, 0) := by
    intro m
    induction m with
    | zero =>
      intro j w0 w2 hj
      refine b_168_18 hJ (fun _ => ?_) ho.1 (fun h => absurd (nI_le (by omega) (by omega)) h)
      have : j = w_ce ct per k - k * per := by omega
      subst this
      exact hQ
    | succ m ih =>
      intro j w0 w2 hj
      refine b_168_18 hJ (fun h => absurd h (nI_ge (by omega) (by omega))) ho.1 (fun _ => T_sizeOf ho ht (by omega) (b_168_32 hJ ?_))
      rw [nI_add, nI_1]
      exact ih (j + 1) _ _ (by omega)
  exact key _ 0 _ _ rfl
theorem T_layChunks (hz : zAll Z) (hr : rC I G n c du si da) (hw : zW I per far wide) {f : Nat}
    (hQ : ∀ I' : aj_I, (∀ a, a ≠ 53 → I' a = I a) → (∀ t k, t < n → k < 16 → I' 53 (t * 16 + k) = nI (f + w_cn n c si per k + w_ct c si per k t)) → Q (some (.int (nI (f + w_cn n c si per 16)))) Z I' G) : aj_T (d + 4) mc ms 167 [.ref 52, .int (nI f)] Z I G Q := by
  have hn := hr.2.1
  refine t_167 fun J hJ => b_167_0 hJ ?_
  have outer : ∀ (m k : Nat) (w1 w4 w5 : Option Value) (I1 : aj_I), m + k = 16 → (∀ a, a ≠ 53 → I1 a = I a) → (∀ t k', t < n → k' < k → I1 53 (t * 16 + k') = nI (f + w_cn n c si per k' + w_ct c si per k' t)) →
      J 4 [some (.ref 52), w1, some (.int (nI (f + w_cn n c si per k))), some (.int (nI k)), w4, w5] [] Z I1 G (0, 0) := by
    intro m
    induction m with
    | zero =>
      intro k w1 w4 w5 I1 hk hfr hpl
      have hk : k = 16 := by omega
      subst hk
      exact b_167_4 hJ (fun _ => hQ I1 hfr hpl) (fun h => absurd (nI_le (a := 16) (b := 16) (Nat.le_refl _) (by decide)) h)
    | succ m ih =>
      intro k w1 w4 w5 I1 hk hfr hpl
      refine b_167_4 hJ (fun h => absurd h (nI_ge (a := k) (b := 16) (by omega) (by decide))) (fun _ => ?_)
      have inner : ∀ (p t : Nat) (w1 w5 : Option Value) (I2 : aj_I), p + t = 3 → (∀ a, a ≠ 53 → I2 a = I a) → (∀ t' k', t' < n → k' < k → I2 53 (t' * 16 + k') = nI (f + w_cn n c si per k' + w_ct c si per k' t')) → (∀ t', t' < n → t' < t → I2 53 (t' * 16 + k) = nI (f + w_cn n c si per k + w_ct c si per k t')) →
          J 13 [some (.ref 52), w1, some (.int (nI (f + w_cn n c si per k + w_ct c si per k (if t < n then t else n)))), some (.int (nI k)), some (.int (nI t)), w5] [] Z I2 G (0, 0) := by
        intro p
        induction p with
        | zero =>
          intro t w1 w5 I2 ht hfr2 hpl2 hpt
          have ht : t = 3 := by omega
          subst ht
          rw [if_neg (by omega)]
          refine b_167_13 hJ (fun _ => ?_) (zk_52 hz) (zr_52_0 hz) (zk_3 hz) (fun h => absurd (nI_le (a := 3) (b := 3) (Nat.le_refl _) (by decide)) h)
          rw [nI_1, Nat.add_assoc f]
          refine ih (k + 1) _ _ _ I2 (by omega) hfr2 (fun t' k' h1 h2 => ?_)
          by_cases hkk : k' = k
          · subst hkk; exact hpt t' h1 (by omega)
          · exact hpl2 t' k' h1 (by omega)
        | succ p ih2 =>
          intro t w1 w5 I2 ht hfr2 hpl2 hpt
          have hr2 : rC I2 G n c du si da := hr.same (fun a h1 h2 => hfr2 a (by omega)) (fun _ _ _ => rfl)
          refine b_167_13 hJ (fun h => absurd h (nI_ge (a := t) (b := 3) (by omega) (by decide))) (zk_52 hz) (zr_52_0 hz) (zk_3 hz) (fun _ => T_find hz hr2 (fun t' ht' e => ?_) (fun hno => ?_))
          · have : t = t' := (nI_eq (by omega) (by omega)).mp e
            subst this
            rw [if_pos ht']
            have ei : nI t * 16 + nI k = nI (t * 16 + k) := by rw [show (16 : Int32) = nI 16 from rfl, pk_mul, nI_add]
            refine b_167_28 hJ (zk_52 hz) (zr_52_2 hz) (zk_53 hz) ?_ ?_
            · rw [ei]; exact vp_in_nI (by omega) (by decide)
            · rw [ei, nI_clamp (by omega)]
              have hr3 : tC (aj_u2 I2 53 (t * 16 + k) (nI (f + w_cn n c si per k + w_ct c si per k t))) G (5 + 4 * t) (c t) (du t) (si t) (da t) := (hr2.2.2 t ht').same (aj_u2_ne (by omega)) (aj_u2_ne (by omega)) (aj_u2_ne (by omega)) rfl
              have hw3 : zW (aj_u2 I2 53 (t * 16 + k) (nI (f + w_cn n c si per k + w_ct c si per k t))) per far wide := by
                unfold zW at hw ⊢
                rw [aj_u2_ne (show 52 ≠ 53 by decide), hfr2 52 (by decide)]
                exact hw
              refine T_chunkBytes hz (zTr_t hz (by omega)) hr3 hw3 (by omega) (b_167_56 hJ ?_)
              rw [nI_add, nI_1]
              have e2 : (if t + 1 < n then t + 1 else n) = t + 1 := by split <;> omega
              have := ih2 (t + 1) (aj_clr w1) (some (.ref (5 + 4 * t))) (aj_u2 I2 53 (t * 16 + k) (nI (f + w_cn n c si per k + w_ct c si per k t))) (by omega) (fun a ha => by rw [aj_u2_ne ha]; exact hfr2 a ha) (fun t' k' h1 h2 => by rw [aj_u2_n2 (by omega)]; exact hpl2 t' k' h1 h2) (fun t' h1 h2 => by
                by_cases htt : t' = t
                · subst htt; exact aj_u2_at
                · rw [aj_u2_n2 (by omega)]; exact hpt t' h1 (by omega))
              rw [e2] at this
              rw [show f + w_cn n c si per k + w_ct c si per k t + w_ck (c t) (si t) per k = f + w_cn n c si per k + w_ct c si per k (t + 1) from Nat.add_assoc _ _ _]
              exact this
          · have htn : ¬ t < n := fun q => hno t q rfl
            refine b_167_28N hJ ?_
            rw [nI_1]
            have := ih2 (t + 1) w1 (some .null) I2 (by omega) hfr2 hpl2 (fun t' h1 h2 => hpt t' h1 (by omega))
            rw [if_neg (by omega)] at this
            rw [if_neg htn]
            exact this
      have := inner 3 0 w1 w5 I1 (by omega) hfr hpl (fun t' _ h => absurd h (by omega))
      have e0 : (if 0 < n then 0 else n) = 0 := by split <;> omega
      rw [e0] at this
      exact this
  exact outer 16 0 _ _ _ I (by omega) (fun _ _ => rfl) (fun _ _ _ h => absurd h (by omega))
end WS
/-! Writer: putting numbers behind the file -/
def eF (I0 I : aj_I) (s : Nat × (Nat → Nat)) : Prop := (∀ a, a ≠ 17 → a ≠ 18 → I a = I0 a) ∧ fC I 17 18 s.1 s.2
section WP
variable {Z : aj_Z} {I0 I : aj_I} {G : aj_G} {Q : aj_Q} {s : Nat × (Nat → Nat)} {d mc ms : Nat}
theorem T_addF (hz : zAll Z) (he : eF I0 I s) {v : Int64} {w : Nat} (hw1 : 1 ≤ w) (hw : w ≤ 8) (hfit : s.1 + w ≤ 1200) (hQ : ∀ (r : Int32) (I' : aj_I), eF I0 I' (f_put s (v, w)) → Q (some (.int r)) Z I' G) : aj_T (d + 1) mc ms 85 [.ref 17, .long v, .int (nI w)] Z I G Q :=
  T_addNumber (zBR_f hz) he.2 hw1 hw hfit (fun I' hf hc => hQ _ I' ⟨fun a h1 h2 => (hf a h1 h2).trans (he.1 a h1 h2), hc⟩)
theorem T_put (hz : zAll Z) (he : eF I0 I s) {v : Int64} (hfit : s.1 + 4 ≤ 1200) (hQ : ∀ I' : aj_I, eF I0 I' (f_put s (p4 v)) → Q none Z I' G) : aj_T (d + 2) mc ms 169 [.ref 52, .long v] Z I G Q :=
  t_169 fun J hJ => b_169_0 hJ (zk_52 hz) (zr_52_1 hz) (zk_17 hz) (T_addF (w := 4) hz he (by decide) (by decide) hfit (fun r I' h => b_169_9 hJ (hQ I' h)))
theorem T_putHead (hz : zAll Z) (he : eF I0 I s) {x y : Int32} (hfit : s.1 + 8 ≤ 1200) (hQ : ∀ I' : aj_I, eF I0 I' (f_ps s [p4 x.toInt64, p4 y.toInt64]) → Q none Z I' G) : aj_T (d + 3) mc ms 170 [.ref 52, .int x, .int y] Z I G Q :=
  t_170 fun J hJ => b_170_0 hJ (zk_52 hz) (T_put hz he (by omega) (fun I1 h1 => b_170_6 hJ (zk_52 hz) (T_put hz h1 (by show s.1 + 4 + 4 ≤ 1200; omega) (fun I2 h2 => b_170_12 hJ (hQ I2 h2)))))
def w_th (ty : Int32) (m w : Nat) : List (Int64 × Nat) := [p4 (lN (16 + m * w)), p4 ty.toInt64, p4 0, p4 (lN m)]
theorem T_putTableHead (hz : zAll Z) (he : eF I0 I s) {ty : Int32} {m w : Nat} (hm : m * w < 4000) (hm2 : m < 4000) (hfit : s.1 + 16 ≤ 1200) (hQ : ∀ I' : aj_I, eF I0 I' (f_ps s (w_th ty m w)) → Q none Z I' G) : aj_T (d + 4) mc ms 171 [.ref 52, .int ty, .int (nI m), .int (nI w)] Z I G Q := by
  refine t_171 fun J hJ => b_171_0 hJ (T_tableSize (b_171_6 hJ (zk_52 hz) (T_putHead hz he (by omega) (fun I1 h1 => b_171_10 hJ (zk_52 hz) (T_put hz h1 ?_ (fun I2 h2 => b_171_15 hJ (zk_52 hz) (T_put hz h2 ?_ (fun I3 h3 => b_171_21 hJ (hQ I3 ?_)))))))))
  · show s.1 + 4 + 4 + 4 ≤ 1200; omega
  · show s.1 + 4 + 4 + 4 + 4 ≤ 1200; omega
  · rw [nI_l (by omega), nI_l (by omega)] at h3
    exact h3
end WP
