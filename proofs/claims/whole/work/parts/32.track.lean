/-! Track and Reel -/
def zTr (Z : aj_Z) (o : Nat) : Prop := Z.2.1 o = some (.inl 8) ∧ Z.2.2 o 0 = .ref (o + 1) ∧ Z.2.2 o 1 = .ref (o + 2) ∧ Z.2.2 o 2 = .ref (o + 3) ∧ Z.2.1 (o + 1) = some (.inr (0, 16)) ∧ Z.2.1 (o + 2) = some (.inr (0, 16)) ∧ Z.2.1 (o + 3) = some (.inr (1, 16))
def tC (I : aj_I) (G : aj_G) (o c : Nat) (du si : Nat → Nat) (da : Nat → Int64) : Prop := I o 3 = nI c ∧ c ≤ 16 ∧ ∀ i, i < c → I (o + 1) i = nI (du i) ∧ du i < 2 ^ 31 ∧ I (o + 2) i = nI (si i) ∧ si i ≤ 8 ∧ G (o + 3) i = da i
def fn_sum (f : Nat → Nat) : Nat → Nat
  | 0 => 0
  | n + 1 => fn_sum f n + f n
theorem fn_sum_le {f : Nat → Nat} {m : Nat} : ∀ (n : Nat), (∀ i, i < n → f i ≤ m) → fn_sum f n ≤ n * m
  | 0, _ => by simp [fn_sum]
  | n + 1, h => by
    have h1 := fn_sum_le n (fun i hi => h i (by omega))
    have h2 := h n (by omega)
    show fn_sum f n + f n ≤ (n + 1) * m
    rw [Nat.add_mul]
    omega
/-- the lowest n bytes of a long, as both sides compute them -/
def fn_low (v : Int64) (n : Nat) : Int64 := if n = 8 then v else v &&& ((1 <<< (Int32.toInt64 (8 * nI n) &&& 63)) - 1)
theorem nI_ix (x : Int32) {n : Nat} (hn : n < 2 ^ 31) : (∃ j, j < n ∧ x = nI j) ∨ ((∀ j, j < n → x ≠ nI j) ∧ (x < 0 ∨ nI n ≤ x)) := by
  rcases pk_ix x hn with h | h | ⟨j, hj, h⟩
  · exact Or.inr ⟨fun j hj e => by rw [e] at h; exact nI_pos (by omega) h, Or.inl h⟩
  · exact Or.inr ⟨fun j hj e => by rw [e] at h; exact nI_ge hj hn h, Or.inr h⟩
  · exact Or.inl ⟨j, hj, h⟩
section TR
variable {Z : aj_Z} {I : aj_I} {G : aj_G} {Q : aj_Q} {o c : Nat} {du si : Nat → Nat} {da : Nat → Int64} {d mc ms : Nat}
theorem T_sampleCount (hz : zTr Z o) (ht : tC I G o c du si da) (hQ : Q (some (.int (nI c))) Z I G) : aj_T (d + 1) mc ms 130 [.ref o] Z I G Q :=
  t_130 fun J hJ => b_130_0 hJ hz.1 (by rw [ht.1]; exact hQ)
theorem T_dropSamples (hz : zTr Z o) (hQ : Q none Z (aj_u2 I o 3 0) G) : aj_T (d + 1) mc ms 131 [.ref o] Z I G Q :=
  t_131 fun J hJ => b_131_0 hJ hz.1 hQ
theorem T_sizeOf (hz : zTr Z o) (ht : tC I G o c du si da) {i : Nat} (hi : i < c) (hQ : Q (some (.int (nI (si i)))) Z I G) : aj_T (d + 1) mc ms 133 [.ref o, .int (nI i)] Z I G Q := by
  have hc := ht.2.1
  refine t_133 fun J hJ => b_133_0 hJ (fun h => absurd h (nI_pos (by omega))) hz.1 (fun _ h => ?_) hz.2.2.1 hz.2.2.2.2.2.1 (fun _ _ => vp_in_nI (by omega) (by decide)) (fun _ _ => ?_)
  · rw [ht.1] at h; exact absurd h (nI_ge hi (by omega))
  · rw [nI_clamp (by omega), (ht.2.2 i hi).2.2.1]; exact hQ
theorem T_sizeOfNo (hz : zTr Z o) (ht : tC I G o c du si da) {i : Int32} (hi : i < 0 ∨ nI c ≤ i) (hQ : Q (some (.int (-1))) Z I G) : aj_T (d + 1) mc ms 133 [.ref o, .int i] Z I G Q := by
  refine t_133 fun J hJ => b_133_0 hJ (fun _ => hQ) hz.1 (fun _ _ => hQ) hz.2.2.1 hz.2.2.2.2.2.1 (fun h1 h2 => ?_) (fun h1 h2 => ?_)
  · rw [ht.1] at h2; rcases hi with h | h; exact absurd h h1; exact absurd h h2
  · rw [ht.1] at h2; rcases hi with h | h; exact absurd h h1; exact absurd h h2
theorem T_durationOf (hz : zTr Z o) (ht : tC I G o c du si da) {i : Nat} (hi : i < c) (hQ : Q (some (.int (nI (du i)))) Z I G) : aj_T (d + 1) mc ms 134 [.ref o, .int (nI i)] Z I G Q := by
  have hc := ht.2.1
  refine t_134 fun J hJ => b_134_0 hJ (fun h => absurd h (nI_pos (by omega))) hz.1 (fun _ h => ?_) hz.2.1 hz.2.2.2.2.1 (fun _ _ => vp_in_nI (by omega) (by decide)) (fun _ _ => ?_)
  · rw [ht.1] at h; exact absurd h (nI_ge hi (by omega))
  · rw [nI_clamp (by omega), (ht.2.2 i hi).1]; exact hQ
theorem T_bytesOf (hz : zTr Z o) (ht : tC I G o c du si da) {i : Nat} (hi : i < c) (hQ : Q (some (.long (da i))) Z I G) : aj_T (d + 1) mc ms 135 [.ref o, .int (nI i)] Z I G Q := by
  have hc := ht.2.1
  refine t_135 fun J hJ => b_135_0 hJ (fun h => absurd h (nI_pos (by omega))) hz.1 (fun _ h => ?_) hz.2.2.2.1 hz.2.2.2.2.2.2 (fun _ _ => vp_in_nI (by omega) (by decide)) (fun _ _ => ?_)
  · rw [ht.1] at h; exact absurd h (nI_ge hi (by omega))
  · rw [nI_clamp (by omega), (ht.2.2 i hi).2.2.2.2]; exact hQ
theorem T_bytesOfNo (hz : zTr Z o) (ht : tC I G o c du si da) {i : Int32} (hi : i < 0 ∨ nI c ≤ i) (hQ : Q (some (.long 0)) Z I G) : aj_T (d + 1) mc ms 135 [.ref o, .int i] Z I G Q := by
  refine t_135 fun J hJ => b_135_0 hJ (fun _ => hQ) hz.1 (fun _ _ => hQ) hz.2.2.2.1 hz.2.2.2.2.2.2 (fun h1 h2 => ?_) (fun h1 h2 => ?_)
  · rw [ht.1] at h2; rcases hi with h | h; exact absurd h h1; exact absurd h h2
  · rw [ht.1] at h2; rcases hi with h | h; exact absurd h h1; exact absurd h h2
theorem T_timeOf (hz : zTr Z o) (ht : tC I G o c du si da) {i : Nat} (hi : i ≤ c) (hQ : Q (some (.long (lN (fn_sum du i)))) Z I G) : aj_T (d + 1) mc ms 136 [.ref o, .int (nI i)] Z I G Q := by
  have hc := ht.2.1
  refine t_136 fun J hJ => ?_
  have key : ∀ (k j : Nat) (w3 : Option Value), k + j = i → J 21 [some (.ref o), some (.int (nI i)), some (.long (lN (fn_sum du j))), w3, some (.int (nI j))] [] Z I G (0, 0) := by
    intro k
    induction k with
    | zero =>
      intro j w3 hj
      have hj : j = i := by omega
      subst hj
      exact b_136_21 hJ (fun _ => hQ) hz.1 hz.2.1 hz.2.2.2.2.1 (fun h => absurd (nI_le (Nat.le_refl j) (by omega)) h) (fun h => absurd (nI_le (Nat.le_refl j) (by omega)) h)
    | succ k ih =>
      intro j w3 hj
      refine b_136_21 hJ (fun h => absurd h (nI_ge (by omega) (by omega))) hz.1 hz.2.1 hz.2.2.2.2.1 (fun _ => vp_in_nI (by omega) (by decide)) (fun _ => ?_)
      rw [nI_clamp (by omega), (ht.2.2 j (by omega)).1, nI_l (ht.2.2 j (by omega)).2.1, lN_add, nI_1]
      exact ih (j + 1) none (by omega)
  refine b_136_0 hJ (fun h => absurd h (nI_pos (by omega))) hz.1 (fun _ _ => key i 0 none (by omega)) (fun _ h => absurd ?_ h)
  rw [ht.1]
  exact nI_le hi (by omega)
theorem T_timeOfNo (hz : zTr Z o) (ht : tC I G o c du si da) {i : Int32} (hi : i < 0 ∨ nI c < i) (hQ : Q (some (.long (-1))) Z I G) : aj_T (d + 1) mc ms 136 [.ref o, .int i] Z I G Q := by
  refine t_136 fun J hJ => b_136_0 hJ (fun _ => hQ) hz.1 (fun h1 h2 => ?_) (fun _ _ => hQ)
  rw [ht.1] at h2
  rcases hi with h | h
  · exact absurd h h1
  · rw [Int32.lt_iff_toInt_lt] at h
    rw [Int32.le_iff_toInt_le] at h2
    omega
theorem T_lowestBytes {v : Int64} {n : Nat} (hn : n ≤ 8) (hQ : Q (some (.long (fn_low v n))) Z I G) : aj_T (d + 1) mc ms 137 [.long v, .int (nI n)] Z I G Q := by
  refine t_137 fun J hJ => b_137_0 hJ (fun h => ?_) (fun h => ?_)
  · have : n < 8 := (nI_ltI (a := n) (b := 8) (by omega) (by decide)).mp h
    unfold fn_low at hQ
    rw [if_neg (by omega)] at hQ
    exact hQ
  · have : ¬ n < 8 := fun z => h (nI_lt (a := n) (b := 8) z (by decide))
    unfold fn_low at hQ
    rw [if_pos (by omega)] at hQ
    exact hQ
/-- a sample more -/
theorem T_addSample (hz : zTr Z o) (ht : tC I G o c du si da) {x : Nat} {v : Int64} {n : Nat} (hc : c < 16) (hx : x < 2 ^ 31) (hn : n ≤ 8)
    (hQ : ∀ (I' : aj_I) (G' : aj_G), (∀ a, a ≠ o → a ≠ o + 1 → a ≠ o + 2 → I' a = I a) → (∀ a, a ≠ o + 3 → G' a = G a) → tC I' G' o (c + 1) (va_up du c x) (va_up si c n) (va_up da c (fn_low v n)) → Q (some (.int (nI c))) Z I' G') : aj_T (d + 2) mc ms 132 [.ref o, .int (nI x), .long v, .int (nI n)] Z I G Q := by
  have h16 : ¬ (16 : Int32) ≤ I o 3 := by rw [ht.1]; exact nI_ge (a := c) (b := 16) hc (by decide)
  have hx0 : ¬ nI x < 0 := nI_pos hx
  have hn0 : ¬ nI n < 0 := nI_pos (by omega)
  have hn8 : nI n ≤ 8 := nI_le (a := n) (b := 8) hn (by decide)
  have e1 : aj_u2 I (o + 1) (I o 3).toNatClampNeg (nI x) o 3 = nI c := by rw [aj_u2_n1 (by omega), ht.1]
  refine t_132 fun J hJ => b_132_0 hJ hz.1 (fun h => absurd h h16) (fun _ h => absurd h hx0) (fun _ _ h => absurd h hn0) hz.2.1 hz.2.2.2.2.1 (fun _ _ _ _ => ?_) hz.2.2.1 hz.2.2.2.2.2.1 (fun _ _ _ _ => ?_) hz.2.2.2.1 (fun _ _ _ _ => ?_) (fun _ _ _ h => absurd hn8 h)
  · rw [ht.1]; exact vp_in_nI (by omega) (by decide)
  · rw [e1]; exact vp_in_nI (by omega) (by decide)
  · refine T_lowestBytes hn ?_
    rw [e1, aj_u2_n1 (by omega), e1, ht.1, nI_clamp (by omega)]
    refine b_132_62 hJ hz.2.2.2.2.2.2 (vp_in_nI (by omega) (by decide)) hz.1 ?_
    have e3 : aj_u2 (aj_u2 I (o + 1) c (nI x)) (o + 2) c (nI n) o 3 = nI c := by rw [aj_u2_n1 (by omega), aj_u2_n1 (by omega), ht.1]
    rw [aj_u2_at, e3, nI_1, nI_pred, nI_clamp (by omega)]
    refine hQ _ _ (fun a h1 h2 h3 => ?_) (fun a ha => aj_u2_ne ha) ⟨aj_u2_at, by omega, fun i hi => ?_⟩
    · rw [aj_u2_ne h1, aj_u2_ne h3, aj_u2_ne h2]
    · rw [aj_u2_ne (show o + 1 ≠ o by omega), aj_u2_ne (show o + 1 ≠ o + 2 by omega), aj_u2_ne (show o + 2 ≠ o by omega)]
      by_cases hic : i = c
      · subst hic
        rw [aj_u2_at, aj_u2_at, aj_u2_at, aj_up_eq, aj_up_eq, aj_up_eq]
        exact ⟨rfl, hx, rfl, hn, rfl⟩
      · have h5 := ht.2.2 i (by omega)
        rw [aj_u2_n2 hic, aj_u2_n2 hic, aj_u2_n2 hic, aj_u2_ne (show o + 2 ≠ o + 1 by omega), aj_up_ne hic, aj_up_ne hic, aj_up_ne hic]
        exact h5
theorem T_addSampleNo (hz : zTr Z o) (ht : tC I G o c du si da) {x n : Int32} {v : Int64} (h : c = 16 ∨ x < 0 ∨ n < 0 ∨ ¬ n ≤ 8) (hQ : Q (some (.int (-1))) Z I G) : aj_T (d + 2) mc ms 132 [.ref o, .int x, .long v, .int n] Z I G Q := by
  have hc := ht.2.1
  have no : ¬ (16 : Int32) ≤ I o 3 → ¬ x < 0 → ¬ n < 0 → n ≤ 8 → False := by
    intro h1 h2 h3 h4
    rcases h with h | h | h | h
    · rw [ht.1, h] at h1; exact h1 (nI_le (a := 16) (b := 16) (Nat.le_refl _) (by decide))
    · exact h2 h
    · exact h3 h
    · exact h h4
  exact t_132 fun J hJ => b_132_0 hJ hz.1 (fun _ => hQ) (fun _ _ => hQ) (fun _ _ _ => hQ) hz.2.1 hz.2.2.2.2.1 (fun a b c d => (no a b c d).elim) hz.2.2.1 hz.2.2.2.2.2.1 (fun a b c d => (no a b c d).elim) hz.2.2.2.1 (fun a b c d => (no a b c d).elim) (fun _ _ _ _ => hQ)
end TR
