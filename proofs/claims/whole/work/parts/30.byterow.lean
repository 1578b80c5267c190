/-! ByteRow: the file -/
def zBR (Z : aj_Z) (o q : Nat) : Prop := Z.2.1 o = some (.inl 2) ∧ Z.2.2 o 0 = .ref q ∧ Z.2.1 q = some (.inr (2, 1200)) ∧ q ≠ o
def fC (I : aj_I) (o q n : Nat) (b : Nat → Nat) : Prop := I o 1 = nI n ∧ n ≤ 1200 ∧ ∀ j, j < n → b j < 256 ∧ I q j &&& 255 = nI (b j)
section BR
variable {Z : aj_Z} {I : aj_I} {G : aj_G} {Q : aj_Q} {o q n : Nat} {b : Nat → Nat} {d mc ms : Nat}
theorem T_byteCount (hz : zBR Z o q) (hf : fC I o q n b) (hQ : Q (some (.int (nI n))) Z I G) : aj_T (d + 1) mc ms 81 [.ref o] Z I G Q :=
  t_81 fun J hJ => b_81_0 hJ hz.1 (by rw [hf.1]; exact hQ)
theorem T_byteAt (hz : zBR Z o q) (hf : fC I o q n b) {i : Int32} (h1 : ∀ j, j < n → i = nI j → Q (some (.int (nI (b j)))) Z I G) (h2 : (∀ j, j < n → i ≠ nI j) → Q (some (.int (-1))) Z I G) : aj_T (d + 1) mc ms 82 [.ref o, .int i] Z I G Q := by
  have hn := hf.2.1
  refine t_82 fun J hJ => b_82_0 hJ (fun h => h2 (fun j hj e => ?_)) hz.1 (fun h3 h4 => h2 (fun j hj e => ?_)) hz.2.1 hz.2.2.1 (fun h3 h4 => ?_) (fun h3 h4 => ?_)
  · rw [e] at h; exact nI_pos (by omega) h
  · rw [hf.1, e] at h4; exact nI_ge hj (by omega) h4
  · rw [hf.1] at h4
    obtain ⟨j, hj, rfl⟩ := nI_of h3
    rw [nI_leI (by omega) hj] at h4
    exact vp_in_nI (by omega) (by decide)
  · rw [hf.1] at h4
    obtain ⟨j, hj, rfl⟩ := nI_of h3
    rw [nI_leI (by omega) hj] at h4
    rw [nI_clamp hj, (hf.2.2 j (by omega)).2]
    exact h1 j (by omega) rfl
theorem T_number (hz : zBR Z o q) (hf : fC I o q n b) {p w : Nat} (hpw : p + w ≤ n) (hw : w ≤ 8) (hQ : Q (some (.long (lN (fn_nb b p w)))) Z I G) : aj_T (d + 1) mc ms 86 [.ref o, .int (nI p), .int (nI w)] Z I G Q := by
  have hn := hf.2.1
  refine t_86 fun J hJ => ?_
  have key : ∀ (k i : Nat) (w4 : Option Value), k + i = w → J 21 [some (.ref o), some (.int (nI p)), some (.int (nI w)), some (.long (lN (fn_nb b p i))), w4, some (.int (nI i))] [] Z I G (0, 0) := by
    intro k
    induction k with
    | zero =>
      intro i w4 hi
      have hi : i = w := by omega
      subst hi
      exact b_86_21 hJ (fun _ => hQ) hz.1 hz.2.1 hz.2.2.1 (fun h => absurd (nI_le (Nat.le_refl i) (by omega)) h) (fun h => absurd (nI_le (Nat.le_refl i) (by omega)) h)
    | succ k ih =>
      intro i w4 hi
      refine b_86_21 hJ (fun h => absurd h (nI_ge (by omega) (by omega))) hz.1 hz.2.1 hz.2.2.1 (fun _ => ?_) (fun _ => ?_)
      · rw [nI_add]; exact vp_in_nI (by omega) (by decide)
      · rw [nI_add, nI_clamp (by omega), (hf.2.2 (p + i) (by omega)).2, nI_1]
        have hlt := fn_nb_lt (b := b) (p := p) i (fun j hj => (hf.2.2 (p + j) (by omega)).1)
        have hpow : 256 ^ i ≤ 256 ^ 7 := Nat.pow_le_pow_right (by decide) (by omega)
        have e7 : (256 : Nat) ^ 7 = 2 ^ 56 := by decide
        rw [fn_step (by omega) (hf.2.2 (p + i) (by omega)).1]
        exact ih (i + 1) none (by omega)
  refine b_86_0 hJ (fun h => absurd h (nI_pos (by omega))) hz.1 (fun _ _ => key w 0 none (by omega)) (fun _ h => absurd ?_ h)
  rw [hf.1, pk_sub (by omega)]
  exact nI_le (by omega) (by omega)
end BR
