/-! read: the class keeps a box of the file's level -/
section RM1
variable {Z : aj_Z} {I : aj_I} {G : aj_G} {Q : aj_Q} {s : r_ps} {d mc ms : Nat}
theorem T_keepInFile (hz : zAll Z) (hC : fdC Z I s) (hl : ps_lv s = 0) {ty : Int32} {ct e : Nat} (h13 : I 21 13 = ty) (h14 : I 21 14 = nI ct) (h15 : I 21 15 = nI e)
    (h0 : ∀ I' : aj_I, r_note s ty ct e = none → (∀ a, a ≠ 21 → I' a = I a) → I' 21 12 = I 21 12 → Q (some (.int 0)) Z I' G) (h1 : ∀ (s' : r_ps) (I' : aj_I), r_note s ty ct e = some s' → (∀ a, a ≠ 21 → I' a = I a) → (∀ j, 13 ≤ j → I' 21 j = I 21 j) → fdC Z I' s' → Q (some (.int 1)) Z I' G) : aj_T (d + 1) mc ms 97 [.ref 21] Z I G Q := by
  have nar1 : narrow .boolean (.int 1) = .int 1 := rfl
  have nar0 : narrow .boolean (.int 0) = .int 0 := rfl
  have m0 : I 21 6 = 0 ↔ (ps_m s).1 = false := by rw [hC.2.2.1]; cases (ps_m s).1 <;> decide
  have m1 : I 21 7 = 0 ↔ (ps_m s).2.1 = false := by rw [hC.2.2.2.1]; cases (ps_m s).2.1 <;> decide
  obtain ⟨d1, d2, d3, d4, d5, d6, d7, d8, d9⟩ := hC
  -- a store that differs at slots 6 to 9 of the finder alone
  have put : ∀ (I' : aj_I) (m : Bool × Bool × Nat × Nat), (∀ a, a ≠ 21 → I' a = I a) → (∀ j, j ≠ 6 → j ≠ 7 → j ≠ 8 → j ≠ 9 → I' 21 j = I 21 j) → I' 21 6 = (if m.1 then 1 else 0) → I' 21 7 = (if m.2.1 then 1 else 0) → (m.2.1 = true → I' 21 8 = nI m.2.2.1 ∧ I' 21 9 = nI m.2.2.2) → fdC Z I' (s.1, s.2.1, s.2.2.1, m, s.2.2.2.2) := by
    intro I' m hfr hsl g6 g7 g8
    refine ⟨by rw [hsl 5 (by decide) (by decide) (by decide) (by decide)]; exact d1, by rw [hfr 23 (by decide), hfr 24 (by decide)]; exact d2, g6, g7, g8, by rw [hsl 10 (by decide) (by decide) (by decide) (by decide)]; exact d6, by rw [hsl 12 (by decide) (by decide) (by decide) (by decide)]; exact d7, d8, fun t ht => ?_⟩
    have h := d9 t ht
    refine ⟨by rw [hfr _ (by omega)]; exact h.1, fun k hk => ?_⟩
    have hI : I' (25 + 9 * t + 5 + k) = I (25 + 9 * t + 5 + k) := hfr _ (by omega)
    refine ⟨by rw [hI]; exact (h.2 k hk).1, fun x hx => ?_⟩
    have := (h.2 k hk).2 x hx
    unfold tbC at this ⊢
    rw [hI]; exact this
  refine t_97 fun J hJ => b_97_0 hJ (zk_21 hz) (fun a => ?_) (fun a z => b_97_23 hJ (zk_21 hz) ?_) (fun a z => b_97_23 hJ (zk_21 hz) ?_)
  · rw [h13] at a
    refine b_97_29 hJ (zk_21 hz) (fun _ => nar1) (fun z => h1 s I ?_ (fun _ _ => rfl) (fun _ _ => rfl) ⟨d1, d2, d3, d4, d5, d6, d7, d8, d9⟩) (fun z y => b_97_50 hJ (zk_21 hz) nar0 (h0 _ ?_ (fun x hx => by rw [aj_u2_ne hx, aj_u2_ne hx, aj_u2_ne hx]) (by rw [aj_u2_n2 (by decide), aj_u2_n2 (by decide), aj_u2_n2 (by decide)]))) (fun z y => b_97_50 hJ (zk_21 hz) nar1 (h1 (s.1, s.2.1, s.2.2.1, ((ps_m s).1, true, ct, e), s.2.2.2.2) _ ?_ (fun x hx => by rw [aj_u2_ne hx, aj_u2_ne hx, aj_u2_ne hx]) (fun j hj => by rw [aj_u2_n2 (by omega), aj_u2_n2 (by omega), aj_u2_n2 (by omega)]) (put _ _ (fun x hx => by rw [aj_u2_ne hx, aj_u2_ne hx, aj_u2_ne hx]) (fun j j1 j2 j3 j4 => by rw [aj_u2_n2 j4, aj_u2_n2 j3, aj_u2_n2 j2]) ?_ ?_ (fun _ => ⟨?_, ?_⟩))))
    · rw [h13] at z; unfold r_note; rw [if_pos hl, if_neg a, if_neg z]
    · rw [h13] at z
      have y : (ps_m s).2.1 = true := by cases q : (ps_m s).2.1; exact absurd (m1.mpr q) y; rfl
      unfold r_note; rw [if_pos hl, if_neg a, if_pos z, if_pos y]
    · rw [h13] at z
      unfold r_note; rw [if_pos hl, if_neg a, if_pos z, if_neg (by rw [m1.mp y]; decide)]
    · rw [aj_u2_n2 (by decide), aj_u2_n2 (by decide), aj_u2_n2 (by decide)]; exact d3
    · rw [aj_u2_n2 (by decide), aj_u2_n2 (by decide), aj_u2_at]; rfl
    · rw [aj_u2_n2 (by decide), aj_u2_at, aj_u2_n2 (by decide)]; exact h14
    · rw [aj_u2_at, aj_u2_n2 (by decide), aj_u2_n2 (by decide)]; exact h15
  · rw [h13] at a
    have z : (ps_m s).1 = true := by cases q : (ps_m s).1; exact absurd (m0.mpr q) z; rfl
    have hnd : ¬ (aj_u2 I 21 6 1) 21 13 = 1835295092 := by rw [aj_u2_n2 (by decide), h13, a]; decide
    refine b_97_29 hJ (zk_21 hz) (fun _ => nar0) (fun _ => h0 _ ?_ (fun x hx => aj_u2_ne hx) (aj_u2_n2 (by decide))) (fun y => absurd y hnd) (fun y => absurd y hnd)
    unfold r_note; rw [if_pos hl, if_pos a, if_pos z]
  · rw [h13] at a
    have hnd : ¬ (aj_u2 I 21 6 1) 21 13 = 1835295092 := by rw [aj_u2_n2 (by decide), h13, a]; decide
    refine b_97_29 hJ (zk_21 hz) (fun _ => nar1) (fun _ => h1 (s.1, s.2.1, s.2.2.1, (true, (ps_m s).2), s.2.2.2.2) _ ?_ (fun x hx => aj_u2_ne hx) (fun j hj => aj_u2_n2 (by omega)) (put _ _ (fun x hx => aj_u2_ne hx) (fun j j1 j2 j3 j4 => aj_u2_n2 j1) ?_ ?_ (fun y => ?_))) (fun y => absurd y hnd) (fun y => absurd y hnd)
    · unfold r_note; rw [if_pos hl, if_pos a, if_neg (by rw [m0.mp z]; decide)]
    · rw [aj_u2_at]; rfl
    · rw [aj_u2_n2 (by decide)]; exact d4
    · rw [aj_u2_n2 (by decide), aj_u2_n2 (by decide)]; exact d5 y
end RM1
