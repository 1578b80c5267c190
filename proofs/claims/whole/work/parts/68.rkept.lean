/-! read: what holds all the way, is kept -/
def r_A (len : Nat) (s : r_ps) : Prop := ps_lv s < 4 ∧ ps_p s ≤ ps_en s (ps_lv s) ∧ ps_en s 0 ≤ len ∧ (∀ i, i < ps_lv s → ps_en s (i + 1) ≤ ps_en s i) ∧ (∀ i, i ≤ ps_lv s → ps_hm s i ≤ len)
theorem r_A_en {len : Nat} {s : r_ps} (h : r_A len s) : ∀ i, i ≤ ps_lv s → ps_en s i ≤ len
  | 0, _ => h.2.2.1
  | i + 1, hi => Nat.le_trans (h.2.2.2.1 i (by omega)) (r_A_en h i (by omega))
theorem r_note_same {s s' : r_ps} {ty : Int32} {ct e : Nat} (h : r_note s ty ct e = some s') : ps_lv s' = ps_lv s ∧ ps_hm s' = ps_hm s ∧ ps_en s' = ps_en s ∧ ps_p s' = ps_p s := by
  unfold r_note at h
  split at h
  · split at h
    · split at h
      · cases h
      · cases h; exact ⟨rfl, rfl, rfl, rfl⟩
    · split at h
      · split at h
        · cases h
        · cases h; exact ⟨rfl, rfl, rfl, rfl⟩
      · cases h; exact ⟨rfl, rfl, rfl, rfl⟩
  · split at h
    · split at h
      · split at h
        · cases h; exact ⟨rfl, rfl, rfl, rfl⟩
        · cases h
      · cases h; exact ⟨rfl, rfl, rfl, rfl⟩
    · split at h
      · split at h
        · split at h
          · cases h; exact ⟨rfl, rfl, rfl, rfl⟩
          · cases h
        · cases h; exact ⟨rfl, rfl, rfl, rfl⟩
      · split at h
        · cases h; exact ⟨rfl, rfl, rfl, rfl⟩
        · split at h
          · cases h; exact ⟨rfl, rfl, rfl, rfl⟩
          · cases h
def r_ms (len : Nat) (s : r_ps) : Nat := (len - ps_p s) + 4 * ps_lv s
theorem r_A_go {len hd sz : Nat} {s s' : r_ps} {ty : Int32} (hA : r_A len s) (hp : ps_p s < ps_en s (ps_lv s)) (h8 : 8 ≤ hd) (hs : hd ≤ sz) (hr : sz ≤ ps_en s (ps_lv s) - ps_p s) (h : r_note s ty (ps_p s + hd) (ps_p s + sz) = some s') : r_A len (r_go s' ty (ps_p s + hd) (ps_p s + sz)) ∧ r_ms len (r_go s' ty (ps_p s + hd) (ps_p s + sz)) < r_ms len s := by
  obtain ⟨e1, e2, e3, e4⟩ := r_note_same h
  have hen := r_A_en hA (ps_lv s) (Nat.le_refl _)
  have hlv := hA.1
  unfold r_go
  split
  · rename_i q
    refine ⟨⟨?_, ?_, ?_, fun i hi => ?_, fun i hi => ?_⟩, ?_⟩
    · show ps_lv s' + 1 < 4
      omega
    · show ps_p s + hd ≤ va_up (ps_en s') (ps_lv s' + 1) (ps_p s + sz) (ps_lv s' + 1)
      rw [aj_up_eq]; omega
    · show va_up (ps_en s') (ps_lv s' + 1) (ps_p s + sz) 0 ≤ len
      rw [aj_up_ne (by omega), e3]; exact hA.2.2.1
    · have hi : i < ps_lv s' + 1 := hi
      show va_up (ps_en s') (ps_lv s' + 1) (ps_p s + sz) (i + 1) ≤ va_up (ps_en s') (ps_lv s' + 1) (ps_p s + sz) i
      rw [aj_up_ne (show i ≠ ps_lv s' + 1 by omega)]
      by_cases y : i = ps_lv s'
      · rw [y, aj_up_eq, e3, e1]; omega
      · rw [aj_up_ne (by omega), e3]; exact hA.2.2.2.1 i (by omega)
    · have hi : i ≤ ps_lv s' + 1 := hi
      show va_up (ps_hm s') (ps_lv s' + 1) (ps_p s') i ≤ len
      by_cases y : i = ps_lv s' + 1
      · rw [y, aj_up_eq, e4]; omega
      · rw [aj_up_ne y, e2]; exact hA.2.2.2.2 i (by omega)
    · show (len - (ps_p s + hd)) + 4 * (ps_lv s' + 1) < (len - ps_p s) + 4 * ps_lv s
      omega
  · refine ⟨⟨?_, ?_, ?_, fun i hi => ?_, fun i hi => ?_⟩, ?_⟩
    · show ps_lv s' < 4
      omega
    · show ps_p s + sz ≤ ps_en s' (ps_lv s')
      rw [e3, e1]; omega
    · show ps_en s' 0 ≤ len
      rw [e3]; exact hA.2.2.1
    · have hi : i < ps_lv s' := hi
      show ps_en s' (i + 1) ≤ ps_en s' i
      rw [e3]; exact hA.2.2.2.1 i (by omega)
    · have hi : i ≤ ps_lv s' := hi
      show ps_hm s' i ≤ len
      rw [e2]; exact hA.2.2.2.2 i (by omega)
    · show (len - (ps_p s + sz)) + 4 * ps_lv s' < (len - ps_p s) + 4 * ps_lv s
      omega
theorem r_A_up {len : Nat} {s : r_ps} (hA : r_A len s) (hp : ¬ ps_p s < ps_en s (ps_lv s)) (h0 : ps_lv s ≠ 0) : r_A len (ps_lv s - 1, s.2) ∧ r_ms len (ps_lv s - 1, s.2) < r_ms len s := by
  have h1 := hA.2.2.2.1 (ps_lv s - 1) (by omega)
  rw [show ps_lv s - 1 + 1 = ps_lv s by omega] at h1
  have h2 := hA.2.1
  have hlv := hA.1
  refine ⟨⟨?_, ?_, hA.2.2.1, fun i hi => ?_, fun i hi => ?_⟩, ?_⟩
  · show ps_lv s - 1 < 4
    omega
  · show ps_p s ≤ ps_en s (ps_lv s - 1)
    omega
  · have hi : i < ps_lv s - 1 := hi
    exact hA.2.2.2.1 i (by omega)
  · have hi : i ≤ ps_lv s - 1 := hi
    exact hA.2.2.2.2 i (by omega)
  · show (len - ps_p s) + 4 * (ps_lv s - 1) < (len - ps_p s) + 4 * ps_lv s
    omega
theorem r_A_0 (len : Nat) : r_A len (r_s0 len) := ⟨(by decide : 0 < 4), Nat.zero_le _, Nat.le_refl _, fun i hi => absurd hi (Nat.not_lt_zero _), fun i _ => Nat.zero_le _⟩
