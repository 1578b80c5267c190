/-! read: the class opens a track's boxes -/
theorem zAll_cur {Z : aj_Z} (h : zAll Z) (v : Value) : zAll (Z.1, Z.2.1, aj_u2 Z.2.2 21 11 v) := by
  refine ⟨h.1, fun p hp => ?_⟩
  have hall : aj_zr.all (fun p => decide (¬ (p.1 = 21 ∧ p.2.1 = 11))) = true := by decide +kernel
  have hne : ¬ (p.1 = 21 ∧ p.2.1 = 11) := of_decide_eq_true (List.all_eq_true.mp hall p hp)
  have e : aj_u2 Z.2.2 21 11 v p.1 p.2.1 = Z.2.2 p.1 p.2.1 := by
    by_cases q : p.1 = 21
    · rw [q]; exact aj_u2_n2 (fun z => hne ⟨q, z⟩)
    · exact aj_u2_n1 q
  show aj_u2 Z.2.2 21 11 v p.1 p.2.1 = _
  rw [e]
  exact h.2 p hp
theorem zrow_B {Z : aj_Z} (h : zAll Z) {t : Nat} (ht : t < 3) : Z.2.2 22 t = .ref (25 + 9 * t) := by
  rcases (show t = 0 ∨ t = 1 ∨ t = 2 by omega) with q | q | q <;> subst q
  · exact zr_22_0 h
  · exact zr_22_1 h
  · exact zr_22_2 h
section RO
variable {Z : aj_Z} {I : aj_I} {G : aj_G} {Q : aj_Q} {len : Nat} {s : r_ps} {d mc ms : Nat}
theorem T_openTrak (hz : zAll Z) (hB : r_B len (ps_lv s) s) (hC : fdC Z I s) (hl : ps_lv s = 1) {ct e : Nat}
    (h0 : r_note s 1953653099 ct e = none → Q (some (.int 0)) Z I G) (h1 : ∀ (s' : r_ps) (Z' : aj_Z) (I' : aj_I), r_note s 1953653099 ct e = some s' → zAll Z' → zCur Z' → (∀ a, a ≤ 20 ∨ a = 22 ∨ a = 23 ∨ a = 24 ∨ 52 ≤ a → I' a = I a) → (∀ j, 11 ≤ j → I' 21 j = I 21 j) → fdC Z' I' s' → Q (some (.int 1)) Z' I' G) : aj_T (d + 3) mc ms 99 [.ref 21] Z I G Q := by
  obtain ⟨d1, d2, d3, d4, d5, d6, d7, d8, d9⟩ := hC
  have hf3 := hB.1
  have en : r_note s 1953653099 ct e = if ps_fd s < 3 then some (s.1, s.2.1, s.2.2.1, s.2.2.2.1, ps_fd s + 1, ps_p s, va_up (ps_sb s) (ps_fd s) none, va_up (ps_tb s) (ps_fd s) (fun _ => none), ps_wd s) else none := by
    unfold r_note
    rw [if_neg (by omega), if_pos hl, if_pos rfl]
  by_cases hlt : ps_fd s < 3
  · rw [if_pos hlt] at en
    have hlt' : I 21 10 < 3 := by rw [d6]; exact nI_lt (b := 3) hlt (by decide)
    refine t_99 fun J hJ => b_99_0 hJ (zk_21 hz) (zr_21_2 hz) (zk_22 hz) (fun _ => by rw [d6]; exact vp_in_nI (by omega) (by decide)) (fun _ => by rw [d6, nI_clamp (by omega)]; exact zrow_B hz hlt) (zTB_t hz hlt).1 (fun _ => ?_) (fun z => absurd hlt' z)
    have hz' := zAll_cur hz (.ref (25 + 9 * ps_fd s))
    refine T_forgetTB (zTB_t hz' hlt) (fun I1 hfr h5 hk => b_99_30 hJ (zk_21 hz') (h1 _ _ _ en hz' ⟨ps_fd s, hlt, (aj_u2_at : aj_u2 Z.2.2 21 11 (Value.ref (25 + 9 * ps_fd s)) 21 11 = _)⟩ (fun a ha => by rw [aj_u2_ne (by omega), hfr a (by omega) (fun k hk => by omega)]) (fun j hj => by rw [aj_u2_n2 (by omega), hfr 21 (by omega) (fun k hk => by omega)]) ?_))
    have f21 : I1 21 = I 21 := hfr 21 (by omega) (fun k hk => by omega)
    have f23 : I1 23 = I 23 := hfr 23 (by omega) (fun k hk => by omega)
    have f24 : I1 24 = I 24 := hfr 24 (by omega) (fun k hk => by omega)
    have u : ∀ a, a ≠ 21 → aj_u2 I1 21 10 (I1 21 10 + 1) a = I1 a := fun a ha => aj_u2_ne ha
    have u2 : ∀ j, j ≠ 10 → aj_u2 I1 21 10 (I1 21 10 + 1) 21 j = I 21 j := fun j hj => by rw [aj_u2_n2 hj, f21]
    refine ⟨by rw [u2 5 (by decide)]; exact d1, by rw [u 23 (by decide), u 24 (by decide), f23, f24]; exact d2, by rw [u2 6 (by decide)]; exact d3, by rw [u2 7 (by decide)]; exact d4, by rw [u2 8 (by decide), u2 9 (by decide)]; exact d5, ?_, by rw [u2 12 (by decide)]; exact d7, fun _ => ?_, fun t ht => ?_⟩
    · rw [aj_u2_at, f21, d6, nI_1]
    · show aj_u2 Z.2.2 21 11 (.ref (25 + 9 * ps_fd s)) 21 11 = .ref (25 + 9 * (ps_fd s + 1 - 1))
      rw [aj_u2_at, Nat.add_sub_cancel]
    · have ht : t < ps_fd s + 1 := ht
      show aj_u2 I1 21 10 (I1 21 10 + 1) (25 + 9 * t) 5 = oN (va_up (ps_sb s) (ps_fd s) none t) ∧ ∀ k, k < 4 → aj_u2 I1 21 10 (I1 21 10 + 1) (25 + 9 * t + 5 + k) 1 = oN ((va_up (ps_tb s) (ps_fd s) (fun _ => none) t k).map (fun x => x.1)) ∧ ∀ x, va_up (ps_tb s) (ps_fd s) (fun _ => none) t k = some x → tbC (aj_u2 I1 21 10 (I1 21 10 + 1)) (25 + 9 * t + 5 + k) k (ps_wd s t) x.1 x.2.1 x.2.2
      rw [u _ (by omega)]
      by_cases y : t = ps_fd s
      · rw [y, aj_up_eq, aj_up_eq]
        exact ⟨h5, fun k hk4 => ⟨by rw [u _ (by omega)]; exact hk k hk4, fun x hx => (by cases hx)⟩⟩
      · have hold := d9 t (by omega)
        rw [aj_up_ne y, aj_up_ne y, hfr _ (by omega) (fun k hk => by omega)]
        refine ⟨hold.1, fun k hk4 => ?_⟩
        have hI : aj_u2 I1 21 10 (I1 21 10 + 1) (25 + 9 * t + 5 + k) = I (25 + 9 * t + 5 + k) := by rw [u _ (by omega)]; exact hfr _ (by omega) (fun j hj => by omega)
        refine ⟨by rw [hI]; exact (hold.2 k hk4).1, fun x hx => ?_⟩
        have := (hold.2 k hk4).2 x hx
        unfold tbC at this ⊢
        rw [hI]; exact this
  · rw [if_neg hlt] at en
    have hlt' : ¬ I 21 10 < 3 := by rw [d6]; exact fun z => hlt ((nI_ltI (b := 3) (by omega) (by decide)).mp z)
    exact t_99 fun J hJ => b_99_0 (q1 := 25) hJ (zk_21 hz) (zr_21_2 hz) (zk_22 hz) (fun z => absurd z hlt') (fun z => absurd z hlt') (zk_25 hz) (fun z => absurd z hlt') (fun _ => h0 en)
end RO
