/-! read: the class goes on, into the box at hand or past it -/
section RS
variable {Z : aj_Z} {I : aj_I} {G : aj_G} {Q : aj_Q} {s : r_ps} {d mc ms : Nat}
theorem T_stepOn (hz : zAll Z) (hC : fdC Z I s) (hlv : ps_lv s < 4) {ty : Int32} {ct e : Nat} (h13 : I 21 13 = ty) (h14 : I 21 14 = nI ct) (h15 : I 21 15 = nI e)
    (hQ : ∀ I' : aj_I, (∀ a, a ≠ 21 → a ≠ 23 → a ≠ 24 → I' a = I a) → fdC Z I' (r_go s ty ct e) → Q none Z I' G) : aj_T (d + 1) mc ms 100 [.ref 21] Z I G Q := by
  obtain ⟨d1, d2, d3, d4, d5, d6, d7, d8, d9⟩ := hC
  have tr : ∀ (I' : aj_I), (∀ a, a ≠ 21 → a ≠ 23 → a ≠ 24 → I' a = I a) → ∀ t, t < ps_fd s → I' (25 + 9 * t) 5 = oN (ps_sb s t) ∧ ∀ k, k < 4 → I' (25 + 9 * t + 5 + k) 1 = oN ((ps_tb s t k).map (fun x => x.1)) ∧ ∀ x, ps_tb s t k = some x → tbC I' (25 + 9 * t + 5 + k) k (ps_wd s t) x.1 x.2.1 x.2.2 := by
    intro I' hfr t ht
    have h := d9 t ht
    refine ⟨by rw [hfr _ (by omega) (by omega) (by omega)]; exact h.1, fun k hk => ?_⟩
    have hI : I' (25 + 9 * t + 5 + k) = I (25 + 9 * t + 5 + k) := hfr _ (by omega) (by omega) (by omega)
    refine ⟨by rw [hI]; exact (h.2 k hk).1, fun x hx => ?_⟩
    have := (h.2 k hk).2 x hx
    unfold tbC at this ⊢
    rw [hI]; exact this
  have past : ¬ (ps_lv s < 3 ∧ ty = aj_gv (ps_lv s)) → Q none Z (aj_u2 I 21 12 (I 21 15)) G := by
    intro hno
    refine hQ _ (fun a a1 _ _ => aj_u2_ne a1) ?_
    unfold r_go
    rw [if_neg hno]
    have u : ∀ j, j ≠ 12 → aj_u2 I 21 12 (I 21 15) 21 j = I 21 j := fun j hj => aj_u2_n2 hj
    refine ⟨by rw [u 5 (by decide)]; exact d1, by rw [aj_u2_ne (show 23 ≠ 21 by decide), aj_u2_ne (show 24 ≠ 21 by decide)]; exact d2, by rw [u 6 (by decide)]; exact d3, by rw [u 7 (by decide)]; exact d4, by rw [u 8 (by decide), u 9 (by decide)]; exact d5, by rw [u 10 (by decide)]; exact d6, by rw [aj_u2_at]; exact h15, d8, tr _ (fun a a1 _ _ => aj_u2_ne a1)⟩
  have e5 : aj_u2 I 21 5 (I 21 5 + 1) 21 5 = nI (ps_lv s + 1) := by rw [aj_u2_at, d1, nI_1]
  have c5 : (I 21 5).toNatClampNeg = ps_lv s := by rw [d1]; exact nI_clamp (by omega)
  refine t_100 fun J hJ => b_100_0 hJ (zk_21 hz) (fun z => past (fun y => ?_)) (fun z => ?_) (fun z y => past (fun x => y ?_)) (zr_21_3 hz) (zk_23 hz) (fun z _ => ?_) (zr_21_4 hz) (zk_24 hz) (fun z _ => ?_) (fun z y => ?_)
  · rw [d1] at z
    have := (nI_leI (a := 3) (by decide) (by omega)).mp z
    omega
  · rw [d1] at z ⊢
    have : ps_lv s < 3 := Nat.not_le.mp (fun x => z (nI_le (a := 3) x (by omega)))
    exact vp_in_nI this (by decide)
  · rw [c5, h13]; exact x.2
  · rw [d1] at z
    have : ps_lv s < 3 := Nat.not_le.mp (fun x => z (nI_le (a := 3) x (by omega)))
    rw [e5]; exact vp_in_nI (by omega) (by decide)
  · rw [d1] at z
    have : ps_lv s < 3 := Nat.not_le.mp (fun x => z (nI_le (a := 3) x (by omega)))
    rw [aj_u2_n1 (show 21 ≠ 23 by decide), e5]; exact vp_in_nI (by omega) (by decide)
  · rw [d1] at z
    have hl3 : ps_lv s < 3 := Nat.not_le.mp (fun x => z (nI_le (a := 3) x (by omega)))
    rw [c5, h13] at y
    rw [aj_u2_n1 (show 21 ≠ 24 by decide), aj_u2_n1 (show 21 ≠ 23 by decide), aj_u2_n1 (show 21 ≠ 23 by decide), aj_u2_n1 (show 21 ≠ 23 by decide), e5, nI_clamp (show ps_lv s + 1 < 2 ^ 31 by omega), aj_u2_n2 (show 12 ≠ 5 by decide), aj_u2_n2 (show 15 ≠ 5 by decide), aj_u2_n2 (show 14 ≠ 5 by decide), d7, h15, h14]
    refine hQ _ (fun a a1 a2 a3 => by rw [aj_u2_ne a1, aj_u2_ne a3, aj_u2_ne a2, aj_u2_ne a1]) ?_
    unfold r_go
    rw [if_pos ⟨hl3, y⟩]
    have u : ∀ j, j ≠ 12 → j ≠ 5 → aj_u2 (aj_u2 (aj_u2 (aj_u2 I 21 5 (I 21 5 + 1)) 23 (ps_lv s + 1) (nI (ps_p s))) 24 (ps_lv s + 1) (nI e)) 21 12 (nI ct) 21 j = I 21 j := fun j j1 j2 => by rw [aj_u2_n2 j1, aj_u2_n1 (show 21 ≠ 24 by decide), aj_u2_n1 (show 21 ≠ 23 by decide), aj_u2_n2 j2]
    refine ⟨?_, fun i hi => ⟨?_, ?_⟩, by rw [u 6 (by decide) (by decide)]; exact d3, by rw [u 7 (by decide) (by decide)]; exact d4, by rw [u 8 (by decide) (by decide), u 9 (by decide) (by decide)]; exact d5, by rw [u 10 (by decide) (by decide)]; exact d6, aj_u2_at, d8, tr _ (fun a a1 a2 a3 => by rw [aj_u2_ne a1, aj_u2_ne a3, aj_u2_ne a2, aj_u2_ne a1])⟩
    · rw [aj_u2_n2 (show 5 ≠ 12 by decide), aj_u2_n1 (show 21 ≠ 24 by decide), aj_u2_n1 (show 21 ≠ 23 by decide)]; exact e5
    · have hi : i ≤ ps_lv s + 1 := hi
      show _ = nI (va_up (ps_hm s) (ps_lv s + 1) (ps_p s) i)
      rw [aj_u2_n1 (show 23 ≠ 21 by decide), aj_u2_n1 (show 23 ≠ 24 by decide)]
      by_cases q : i = ps_lv s + 1
      · rw [q, aj_u2_at, aj_up_eq]
      · rw [aj_u2_n2 q, aj_up_ne q, aj_u2_n1 (show 23 ≠ 21 by decide)]; exact (d2 i (by omega)).1
    · have hi : i ≤ ps_lv s + 1 := hi
      show _ = nI (va_up (ps_en s) (ps_lv s + 1) e i)
      rw [aj_u2_n1 (show 24 ≠ 21 by decide)]
      by_cases q : i = ps_lv s + 1
      · rw [q, aj_u2_at, aj_up_eq]
      · rw [aj_u2_n2 q, aj_up_ne q, aj_u2_n1 (show 24 ≠ 23 by decide), aj_u2_n1 (show 24 ≠ 21 by decide)]; exact (d2 i (by omega)).2
end RS
