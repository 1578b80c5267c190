/-! read: what was found, is kept -/
def r_B (len lv : Nat) (s : r_ps) : Prop := ps_fd s ≤ 3 ∧ (2 ≤ lv → 1 ≤ ps_fd s) ∧ ((ps_m s).2.1 = true → (ps_m s).2.2.1 ≤ (ps_m s).2.2.2 ∧ (ps_m s).2.2.2 ≤ len) ∧
  (∀ t, t < ps_fd s → (∀ q, ps_sb s t = some q → q ≤ len) ∧ ∀ k, k < 4 → ∀ x, ps_tb s t k = some x → x.1 ≤ len ∧ x.2.1 ≤ x.2.2 ∧ x.2.2 ≤ len) ∧
  (∀ t, t + 1 < ps_fd s → r_full s t) ∧ (lv ≤ 1 → ∀ t, t < ps_fd s → r_full s t) ∧ (lv = 2 → ps_sb s (ps_fd s - 1) ≠ none → r_full s (ps_fd s - 1)) ∧ (lv = 3 → ps_sb s (ps_fd s - 1) ≠ none)
theorem r_B_0 (len : Nat) : r_B len 0 (r_s0 len) := ⟨(by decide : 0 ≤ 3), fun h => absurd h (by decide), fun h => absurd h (show ¬ (false = true) by decide), fun t ht => absurd ht (Nat.not_lt_zero _), fun t ht => absurd ht (Nat.not_lt_zero _), fun _ t ht => absurd ht (Nat.not_lt_zero _), fun h => absurd h (by decide), fun h => absurd h (by decide)⟩
theorem r_B_up {len : Nat} {s : r_ps} (hB : r_B len (ps_lv s) s) (hlv : ps_lv s < 4) (h0 : ps_lv s ≠ 0) (hw : r_whole s) : r_B len (ps_lv s - 1) s := by
  obtain ⟨b1, b2, b3, b4, b5, b6, b7, b8⟩ := hB
  refine ⟨b1, fun h => b2 (by omega), b3, b4, b5, fun h t ht => ?_, fun h _ => ?_, fun h => absurd h (by omega)⟩
  · rcases (show ps_lv s = 1 ∨ ps_lv s = 2 by omega) with q | q
    · exact b6 (by omega) t ht
    · by_cases y : t + 1 < ps_fd s
      · exact b5 t y
      · rw [show t = ps_fd s - 1 by omega]
        exact b7 q (hw.2.1 q)
  · have q : ps_lv s = 3 := by omega
    exact ⟨b8 q, hw.2.2 q⟩
theorem r_B_note {len hd sz : Nat} {s s' : r_ps} {ty : Int32} (hA : r_A len s) (hB : r_B len (ps_lv s) s) (hs : hd ≤ sz) (hr : ps_p s + sz ≤ len) (h : r_note s ty (ps_p s + hd) (ps_p s + sz) = some s') : r_B len (if ps_lv s < 3 ∧ ty = aj_gv (ps_lv s) then ps_lv s + 1 else ps_lv s) s' := by
  obtain ⟨b1, b2, b3, b4, b5, b6, b7, b8⟩ := hB
  have hp : ps_p s ≤ len := by omega
  have hlv := hA.1
  unfold r_note at h
  split at h
  · rename_i q0
    rw [q0] at b2 b6 b7 b8
    -- at the file's level nothing of a track changes
    have same : ∀ (l : Nat) (s2 : r_ps), l ≤ 1 → ps_fd s2 = ps_fd s → ps_sb s2 = ps_sb s → ps_tb s2 = ps_tb s → ((ps_m s2).2.1 = true → (ps_m s2).2.2.1 ≤ (ps_m s2).2.2.2 ∧ (ps_m s2).2.2.2 ≤ len) → r_B len l s2 := by
      intro l s2 hl f1 f2 f3 f4
      refine ⟨by rw [f1]; exact b1, fun y => absurd y (by omega), f4, ?_, ?_, ?_, fun y => absurd y (by omega), fun y => absurd y (by omega)⟩
      · rw [f1, f2, f3]; exact b4
      · unfold r_full; rw [f1, f2, f3]; exact b5
      · unfold r_full; rw [f1, f2, f3]; exact fun _ => b6 (by decide)
    have hl1 : (if ps_lv s < 3 ∧ ty = aj_gv (ps_lv s) then ps_lv s + 1 else ps_lv s) ≤ 1 := by split <;> omega
    split at h
    · split at h
      · cases h
      · cases h; exact same _ _ hl1 rfl rfl rfl b3
    · split at h
      · split at h
        · cases h
        · cases h; exact same _ _ hl1 rfl rfl rfl (fun _ => ⟨by show ps_p s + hd ≤ ps_p s + sz; omega, hr⟩)
      · cases h; exact same _ _ hl1 rfl rfl rfl b3
  · rename_i q0
    split at h
    · rename_i q1
      rw [q1] at b2 b6 b7 b8 ⊢
      split at h
      · rename_i qt
        split at h
        · rename_i q3
          cases h
          rw [if_pos ⟨by decide, by rw [qt]; rfl⟩]
          have full : ∀ t, t < ps_fd s → r_full s t := b6 (by decide)
          have ne : ∀ t, t < ps_fd s → va_up (ps_sb s) (ps_fd s) none t = ps_sb s t ∧ va_up (ps_tb s) (ps_fd s) (fun _ => none) t = ps_tb s t := fun t ht => ⟨aj_up_ne (by omega), aj_up_ne (by omega)⟩
          refine ⟨?_, fun _ => ?_, b3, fun t ht => ?_, fun t ht => ?_, fun y => absurd y (by decide), fun _ y => absurd ?_ y, fun y => absurd y (by decide)⟩
          · show ps_fd s + 1 ≤ 3; omega
          · show 1 ≤ ps_fd s + 1; omega
          · have ht : t < ps_fd s + 1 := ht
            show (∀ q, va_up (ps_sb s) (ps_fd s) none t = some q → q ≤ len) ∧ ∀ k, k < 4 → ∀ x, va_up (ps_tb s) (ps_fd s) (fun _ => none) t k = some x → x.1 ≤ len ∧ x.2.1 ≤ x.2.2 ∧ x.2.2 ≤ len
            by_cases y : t = ps_fd s
            · rw [y, aj_up_eq, aj_up_eq]
              exact ⟨fun q z => (by cases z), fun k _ x z => (by cases z)⟩
            · rw [(ne t (by omega)).1, (ne t (by omega)).2]
              exact b4 t (by omega)
          · have ht : t + 1 < ps_fd s + 1 := ht
            show va_up (ps_sb s) (ps_fd s) none t ≠ none ∧ ∀ k, k < 4 → va_up (ps_tb s) (ps_fd s) (fun _ => none) t k ≠ none
            rw [(ne t (by omega)).1, (ne t (by omega)).2]
            exact full t (by omega)
          · show va_up (ps_sb s) (ps_fd s) none (ps_fd s + 1 - 1) = none
            rw [Nat.add_sub_cancel, aj_up_eq]
        · cases h
      · rename_i qt
        cases h
        rw [if_neg (fun y => qt (by rw [y.2]; rfl))]
        exact ⟨b1, b2, b3, b4, b5, b6, b7, b8⟩
    · rename_i q1
      split at h
      · rename_i q2
        rw [q2] at b2 b6 b7 b8 ⊢
        have hf1 : 1 ≤ ps_fd s := b2 (by decide)
        split at h
        · rename_i qt
          split at h
          · cases h
            rw [if_pos ⟨by decide, by rw [qt]; rfl⟩]
            refine ⟨b1, fun _ => hf1, b3, fun t ht => ⟨fun q z => ?_, (b4 t ht).2⟩, fun t ht => ?_, fun y => absurd y (by decide), fun y => absurd y (by decide), fun _ y => ?_⟩
            · have z : va_up (ps_sb s) (ps_fd s - 1) (some (ps_p s)) t = some q := z
              by_cases y : t = ps_fd s - 1
              · rw [y, aj_up_eq] at z; cases z; exact hp
              · rw [aj_up_ne y] at z; exact (b4 t ht).1 q z
            · have ht : t + 1 < ps_fd s := ht
              refine ⟨?_, (b5 t ht).2⟩
              show va_up (ps_sb s) (ps_fd s - 1) (some (ps_p s)) t ≠ none
              rw [aj_up_ne (by omega)]
              exact (b5 t ht).1
            · have y : va_up (ps_sb s) (ps_fd s - 1) (some (ps_p s)) (ps_fd s - 1) = none := y
              rw [aj_up_eq] at y; cases y
          · cases h
        · rename_i qt
          cases h
          rw [if_neg (fun y => qt (by rw [y.2]; rfl))]
          exact ⟨b1, b2, b3, b4, b5, b6, b7, b8⟩
      · rename_i q2
        have q3 : ps_lv s = 3 := by omega
        rw [q3] at b2 b6 b7 b8 ⊢
        rw [if_neg (fun y => absurd y.1 (by decide))]
        split at h
        · cases h
          exact ⟨b1, b2, b3, b4, b5, b6, b7, b8⟩
        · rename_i k w hk
          split at h
          · cases h
            have hf1 : 1 ≤ ps_fd s := b2 (by decide)
            refine ⟨b1, b2, b3, fun t ht => ⟨(b4 t ht).1, fun j hj x z => ?_⟩, fun t ht => ⟨(b5 t ht).1, fun j hj => ?_⟩, fun y => absurd y (by decide), fun y => absurd y (by decide), b8⟩
            · have z : aj_u2 (ps_tb s) (ps_fd s - 1) k (some (ps_p s, ps_p s + hd, ps_p s + sz)) t j = some x := z
              by_cases y : t = ps_fd s - 1
              · by_cases y2 : j = k
                · rw [y, y2, aj_u2_at] at z; cases z
                  exact ⟨hp, by show ps_p s + hd ≤ ps_p s + sz; omega, hr⟩
                · rw [y, aj_u2_n2 y2] at z; rw [← y] at z; exact (b4 t ht).2 j hj x z
              · rw [aj_u2_ne y] at z; exact (b4 t ht).2 j hj x z
            · have ht : t + 1 < ps_fd s := ht
              show aj_u2 (ps_tb s) (ps_fd s - 1) k (some (ps_p s, ps_p s + hd, ps_p s + sz)) t j ≠ none
              rw [aj_u2_ne (by omega)]
              exact (b5 t ht).2 j hj
          · cases h
