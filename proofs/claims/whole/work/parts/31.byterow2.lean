/-! ByteRow: writing -/
theorem sm_neg (k : Nat) : nI k + (-1) = nI k - 1 := by rw [Int32.sub_eq_add_neg]
theorem sm_m1 : nI 0 - 1 < 0 := by decide
theorem sm_8 (k : Nat) : (8 : Int32) * nI k = nI (8 * k) := pk_mul 8 k
/-- n bytes of a number behind n0 bytes -/
def fn_app (b : Nat → Nat) (n : Nat) (v : Int64) (w : Nat) : Nat → Nat := fun j => if n ≤ j ∧ j < n + w then fn_by v (w - 1 - (j - n)) else b j
def fn_b8 (x : Int32) : Nat := x.toBitVec.toNat % 256
theorem fn_b8_lt (x : Int32) : fn_b8 x < 256 := Nat.mod_lt _ (by decide)
theorem fn_b8_and (x : Int32) : x &&& 255 = nI (fn_b8 x) := pk_and x (m := 255) 8 (by decide)
/-- a number of bytes, the lowest first -/
def fn_lf (b : Nat → Nat) : Nat → Nat → Nat
  | _, 0 => 0
  | p, w + 1 => b p + 256 * fn_lf b (p + 1) w
theorem fn_lf_lt {b : Nat → Nat} : ∀ (w p : Nat), (∀ j, j < w → b (p + j) < 256) → fn_lf b p w < 256 ^ w
  | 0, _, _ => by simp [fn_lf]
  | w + 1, p, h => by
    have h1 := fn_lf_lt w (p + 1) (fun j hj => by have := h (j + 1) (by omega); rwa [show p + 1 + j = p + (j + 1) by omega])
    have h2 := h 0 (by omega)
    rw [Nat.add_zero] at h2
    show b p + 256 * fn_lf b (p + 1) w < 256 ^ (w + 1)
    rw [Nat.pow_succ]
    omega
section BR2
variable {Z : aj_Z} {I : aj_I} {G : aj_G} {Q : aj_Q} {o q n : Nat} {b : Nat → Nat} {d mc ms : Nat}
theorem T_addNumber (hz : zBR Z o q) (hf : fC I o q n b) {v : Int64} {w : Nat} (hw1 : 1 ≤ w) (hw : w ≤ 8) (hfit : n + w ≤ 1200)
    (hQ : ∀ I' : aj_I, (∀ a, a ≠ o → a ≠ q → I' a = I a) → fC I' o q (n + w) (fn_app b n v w) → Q (some (.int (nI (n + w)))) Z I' G) : aj_T (d + 1) mc ms 85 [.ref o, .long v, .int (nI w)] Z I G Q := by
  refine t_85 fun J hJ => ?_
  have key : ∀ (k : Nat) (w2 w3 : Option Value) (I1 : aj_I), k ≤ w → (∀ a, a ≠ o → a ≠ q → I1 a = I a) → fC I1 o q (n + (w - k)) (fn_app b n v w) → J 30 [some (.ref o), some (.long v), w2, w3, some (.int (nI k - 1))] [] Z I1 G (0, 0) := by
    intro k
    induction k with
    | zero =>
      intro w2 w3 I1 hk hfr hf1
      refine b_85_30 hJ hz.1 (fun _ => ?_) hz.2.1 hz.2.2.1 (fun h => absurd sm_m1 h) (fun h => absurd sm_m1 h)
      rw [hf1.1]
      rw [Nat.sub_zero] at hf1 ⊢
      exact hQ I1 hfr hf1
    | succ k ih =>
      intro w2 w3 I1 hk hfr hf1
      have hc := hf1.1
      refine b_85_30 hJ hz.1 (fun h => absurd h ?_) hz.2.1 hz.2.2.1 (fun _ => ?_) (fun _ => ?_)
      · rw [nI_pred]; exact nI_pos (by omega)
      · rw [hc]; exact vp_in_nI (by omega) (by decide)
      · rw [nI_pred, sm_neg, hc, nI_clamp (by omega), sm_8]
        refine ih _ _ _ (by omega) (fun a h1 h2 => ?_) ⟨?_, by omega, fun j hj => ?_⟩
        · rw [aj_u2_ne h1, aj_u2_ne h2]; exact hfr a h1 h2
        · rw [aj_u2_at, aj_u2_n1 (Ne.symm hz.2.2.2), hc, nI_1]
          congr 1; omega
        · rw [aj_u2_ne hz.2.2.2]
          by_cases hjc : j = n + (w - (k + 1))
          · subst hjc
            rw [aj_u2_at, fn_ubyte v (by omega)]
            have e : fn_app b n v w (n + (w - (k + 1))) = fn_by v k := by
              unfold fn_app
              rw [if_pos ⟨by omega, by omega⟩]
              congr 1; omega
            rw [e]
            exact ⟨fn_by_lt v k, rfl⟩
          · rw [aj_u2_n2 hjc]
            exact hf1.2.2 j (by omega)
  have hn := hf.2.1
  refine b_85_0 hJ (fun h => absurd h ?_) (fun _ h => absurd h ?_) hz.1 (fun _ _ _ => ?_) (fun _ _ h => absurd ?_ h)
  · exact nI_nlt (a := w) (b := 1) hw1 (by omega)
  · exact nI_nlt (a := 8) (b := w) hw (by decide)
  · refine key w _ _ I (Nat.le_refl _) (fun _ _ _ => rfl) ⟨?_, by omega, fun j hj => ?_⟩
    · rw [Nat.sub_self]; exact hf.1
    · rw [Nat.sub_self] at hj
      have e : fn_app b n v w j = b j := by unfold fn_app; rw [if_neg (by omega)]
      rw [e]
      exact hf.2.2 j hj
  · rw [hf.1, nI_add]
    exact nI_le (a := n + w) (b := 1200) hfit (by decide)
theorem T_addNumberNo (hz : zBR Z o q) (hf : fC I o q n b) {v : Int64} {w : Int32} (h : ¬ ∃ k : Nat, w = nI k ∧ 1 ≤ k ∧ k ≤ 8 ∧ n + k ≤ 1200) (hQ : Q (some (.int (-1))) Z I G) : aj_T (d + 1) mc ms 85 [.ref o, .long v, .int w] Z I G Q := by
  refine t_85 fun J hJ => ?_
  have hn := hf.2.1
  refine b_85_0 hJ (fun _ => hQ) (fun _ _ => hQ) hz.1 (fun h1 h2 h3 => absurd ?_ h) (fun _ _ _ => hQ)
  have h0 : ¬ w < 0 := by
    intro h0
    apply h1
    rw [Int32.lt_iff_toInt_lt] at h0 ⊢
    have e0 : (0 : Int32).toInt = 0 := by decide
    have e1 : (1 : Int32).toInt = 1 := by decide
    omega
  obtain ⟨k, hk, rfl⟩ := nI_of h0
  have a1 : ¬ k < 1 := fun z => h1 (nI_lt z (by decide))
  have a2 : ¬ 8 < k := fun z => h2 (nI_lt z hk)
  rw [hf.1, nI_add] at h3
  exact ⟨k, rfl, by omega, by omega, (nI_leI (a := n + k) (b := 1200) (by omega) (by decide)).mp h3⟩
theorem T_setByte (hz : zBR Z o q) (hf : fC I o q n b) {i x : Int32} (h1 : ∀ (j : Nat) (I' : aj_I), j < n → i = nI j → (∀ a, a ≠ q → I' a = I a) → fC I' o q n (va_up b j (fn_b8 x)) → Q (some (.int 1)) Z I' G) (h2 : (∀ j, j < n → i ≠ nI j) → Q (some (.int 0)) Z I G) : aj_T (d + 1) mc ms 83 [.ref o, .int i, .int x] Z I G Q := by
  have hn := hf.2.1
  refine t_83 fun J hJ => b_83_0 hJ (fun h => h2 (fun j hj e => ?_)) hz.1 hz.2.1 hz.2.2.1 (fun h3 h4 => ?_) (fun h3 h4 => ?_) (fun h3 h4 => h2 (fun j hj e => ?_))
  · rw [e] at h; exact nI_pos (by omega) h
  · rw [hf.1] at h4
    obtain ⟨j, hj, rfl⟩ := nI_of h3
    rw [nI_ltI hj (by omega)] at h4
    exact vp_in_nI (by omega) (by decide)
  · rw [hf.1] at h4
    obtain ⟨j, hj, rfl⟩ := nI_of h3
    rw [nI_ltI hj (by omega)] at h4
    rw [nI_clamp hj]
    refine h1 j _ h4 rfl (fun a ha => aj_u2_ne ha) ⟨by rw [aj_u2_n1 (Ne.symm hz.2.2.2)]; exact hf.1, hn, fun a ha => ?_⟩
    by_cases haj : a = j
    · subst haj
      rw [aj_u2_at, aj_up_eq, fn_b2, fn_b8_and]
      exact ⟨fn_b8_lt x, rfl⟩
    · rw [aj_u2_n2 haj, aj_up_ne haj]
      exact hf.2.2 a ha
  · rw [hf.1, e] at h4; exact h4 (nI_lt hj (by omega))
theorem T_keepFirst (hz : zBR Z o q) (hf : fC I o q n b) {x : Int32} (h1 : ∀ (k : Nat) (I' : aj_I), k ≤ n → x = nI k → (∀ a, a ≠ o → I' a = I a) → fC I' o q k b → Q (some (.int 1)) Z I' G) (h2 : (∀ k, k ≤ n → x ≠ nI k) → Q (some (.int 0)) Z I G) : aj_T (d + 1) mc ms 84 [.ref o, .int x] Z I G Q := by
  have hn := hf.2.1
  refine t_84 fun J hJ => b_84_0 hJ (fun h => h2 (fun j hj e => ?_)) hz.1 (fun h3 h4 => ?_) (fun h3 h4 => h2 (fun j hj e => ?_))
  · rw [e] at h; exact nI_pos (by omega) h
  · rw [hf.1] at h4
    obtain ⟨j, hj, rfl⟩ := nI_of h3
    rw [nI_leI hj (by omega)] at h4
    refine h1 j _ h4 rfl (fun a ha => aj_u2_ne ha) ⟨aj_u2_at, by omega, fun a ha => ?_⟩
    rw [aj_u2_ne hz.2.2.2]
    exact hf.2.2 a (by omega)
  · rw [hf.1, e] at h4; exact h4 (nI_le hj (by omega))
theorem T_lowestFirst (hz : zBR Z o q) (hf : fC I o q n b) {p w : Nat} (hpw : p + w ≤ n) (hw : w ≤ 8) (hQ : Q (some (.long (lN (fn_lf b p w)))) Z I G) : aj_T (d + 1) mc ms 87 [.ref o, .long (lN p), .int (nI w)] Z I G Q := by
  have hn := hf.2.1
  refine t_87 fun J hJ => ?_
  have key : ∀ (k : Nat) (w2 w3 w5 : Option Value), k ≤ w → J 29 [some (.ref o), some (.long (lN p)), w2, w3, some (.long (lN (fn_lf b (p + k) (w - k)))), w5, some (.int (nI k - 1))] [] Z I G (0, 0) := by
    intro k
    induction k with
    | zero =>
      intro w2 w3 w5 hk
      exact b_87_29 hJ (fun _ => hQ) hz.1 hz.2.1 hz.2.2.1 (fun h => absurd sm_m1 h) (fun h => absurd sm_m1 h)
    | succ k ih =>
      intro w2 w3 w5 hk
      refine b_87_29 hJ (fun h => absurd h ?_) hz.1 hz.2.1 hz.2.2.1 (fun _ => ?_) (fun _ => ?_)
      · rw [nI_pred]; exact nI_pos (by omega)
      · rw [nI_pred, lN_i, nI_add]; exact vp_in_nI (by omega) (by decide)
      · rw [nI_pred, sm_neg, lN_i, nI_add, nI_clamp (by omega), (hf.2.2 (p + k) (by omega)).2]
        have hlt := fn_lf_lt (b := b) (w - (k + 1)) (p + (k + 1)) (fun j hj => (hf.2.2 (p + (k + 1) + j) (by omega)).1)
        have hpow : 256 ^ (w - (k + 1)) ≤ 256 ^ 7 := Nat.pow_le_pow_right (by decide) (by omega)
        have e7 : (256 : Nat) ^ 7 = 2 ^ 56 := by decide
        rw [fn_step (by omega) (hf.2.2 (p + k) (by omega)).1]
        have e : fn_lf b (p + (k + 1)) (w - (k + 1)) * 256 + b (p + k) = fn_lf b (p + k) (w - k) := by
          rw [show w - k = (w - (k + 1)) + 1 by omega]
          show _ = b (p + k) + 256 * fn_lf b (p + k + 1) (w - (k + 1))
          rw [show p + (k + 1) = p + k + 1 by omega]
          omega
        rw [e]
        exact ih _ _ _ (by omega)
  refine b_87_0 hJ (fun h => absurd h ?_) hz.1 (fun _ _ => ?_) (fun _ h => absurd ?_ h)
  · exact fun z => Nat.not_lt_zero p ((lN_lt (a := p) (b := 0) (by omega) (by decide)).mp z)
  · have := key w none (some (.int (nI w))) none (Nat.le_refl _)
    rw [Nat.sub_self] at this
    exact this
  · rw [hf.1, nI_l (by omega), nI_l (by omega), lN_add]
    exact (lN_le (by omega) (by omega)).mpr hpw
end BR2
