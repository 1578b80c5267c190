/-! read: the class keeps a box, at whatever level -/
section RQ
variable {Z : aj_Z} {I : aj_I} {G : aj_G} {Q : aj_Q} {len : Nat} {s : r_ps} {d mc ms : Nat}
theorem T_keepBox (hz : zAll Z) (zc : zCur Z) (hlen : len ≤ 1200) (hA : r_A len s) (hB : r_B len (ps_lv s) s) (hC : fdC Z I s) {ty : Int32} {ct e : Nat} (h13 : I 21 13 = ty) (h14 : I 21 14 = nI ct) (h15 : I 21 15 = nI e) (hce : ct ≤ e)
    (h0 : ∀ I' : aj_I, r_note s ty ct e = none → (∀ a, a ≤ 20 ∨ 52 ≤ a → I' a = I a) → I' 21 12 = I 21 12 → Q (some (.int 0)) Z I' G)
    (h1 : ∀ (s' : r_ps) (Z' : aj_Z) (I' : aj_I), r_note s ty ct e = some s' → zAll Z' → zCur Z' → (∀ a, a ≤ 20 ∨ 52 ≤ a → I' a = I a) → (∀ j, 13 ≤ j → I' 21 j = I 21 j) → fdC Z' I' s' → Q (some (.int 1)) Z' I' G) : aj_T (d + 4) mc ms 96 [.ref 21] Z I G Q := by
  obtain ⟨q, c1, c2, c3⟩ := r_cur hz zc hC
  have hlv := hA.1
  have lvE : ∀ j : Nat, j < 2 ^ 31 → (I 21 5 = nI j ↔ ps_lv s = j) := fun j hj => by rw [hC.1]; exact nI_eq (by omega) hj
  have l0 : I 21 5 = 0 ↔ ps_lv s = 0 := lvE 0 (by decide)
  have l1 : I 21 5 = 1 ↔ ps_lv s = 1 := lvE 1 (by decide)
  have l2 : I 21 5 = 2 ↔ ps_lv s = 2 := lvE 2 (by decide)
  have nar1 : narrow .boolean (.int 1) = .int 1 := rfl
  have nar0 : narrow .boolean (.int 0) = .int 0 := rfl
  refine t_96 fun J hJ => b_96_0 hJ (zk_21 hz) (fun a => ?_) (fun _ a y => h1 s Z I ?_ hz zc (fun _ _ => rfl) (fun _ _ => rfl) hC) (fun _ a y => ?_) (fun _ _ a y => h1 s Z I ?_ hz zc (fun _ _ => rfl) (fun _ _ => rfl) hC) c1 c2 (fun _ _ a y => ?_) (fun a1 a2 a3 => ?_)
  · exact T_keepInFile hz hC (l0.mp a) h13 h14 h15 (fun I' en hfr h12 => b_96_36 hJ nar0 (h0 I' en (fun x hx => hfr x (by omega)) h12)) (fun s' I' en hfr hsl hC' => b_96_36 hJ nar1 (h1 s' Z I' en hz zc (fun x hx => hfr x (by omega)) hsl hC'))
  · have a := l1.mp a
    rw [h13] at y
    unfold r_note; rw [if_neg (by omega), if_pos a, if_neg y]
  · have a := l1.mp a
    rw [h13] at y
    subst y
    exact T_openTrak hz hB hC a (fun en => b_96_50 hJ (fun _ => h0 I en (fun _ _ => rfl) rfl) (fun z => absurd rfl z)) (fun s' Z' I' en hz' zc' hfr hsl hC' => b_96_50 hJ (fun z => absurd z (by decide)) (fun _ => h1 s' Z' I' en hz' zc' (fun x hx => hfr x (by omega)) (fun j hj => hsl j (by omega)) hC'))
  · have a := l2.mp a
    rw [h13] at y
    unfold r_note; rw [if_neg (by omega), if_neg (by omega), if_pos a, if_neg y]
  · have a := l2.mp a
    rw [h13] at y
    have hf1 := hB.2.1 (by omega)
    have hf3 := hB.1
    have eq := c3 hf1
    subst eq
    have hT := hC.2.2.2.2.2.2.2.2 (ps_fd s - 1) (by omega)
    have hb := hB.2.2.2.1 (ps_fd s - 1) (by omega)
    have en : r_note s ty ct e = if ps_sb s (ps_fd s - 1) = none then some (s.1, s.2.1, s.2.2.1, s.2.2.2.1, ps_fd s, ps_p s, va_up (ps_sb s) (ps_fd s - 1) (some (ps_p s)), ps_tb s, ps_wd s) else none := by
      unfold r_note; rw [if_neg (by omega), if_neg (by omega), if_pos a, if_pos y]
    refine T_takeStbl (zTB_t hz (by omega)) (fun p hp => Nat.le_trans (hb.1 p hp) hlen) hT.1 (fun x => b_96_79 hJ (fun z => absurd z (by decide)) (fun _ => ?_)) (fun x => b_96_79 hJ (fun _ => h0 I (by rw [en, if_neg x]) (fun _ _ => rfl) rfl) (fun z => absurd rfl z))
    rw [if_pos x] at en
    obtain ⟨d1, d2, d3, d4, d5, d6, d7, d8, d9⟩ := hC
    rw [d7]
    have f : ∀ n, n ≠ 25 + 9 * (ps_fd s - 1) → aj_u2 I (25 + 9 * (ps_fd s - 1)) 5 (nI (ps_p s)) n = I n := fun n hn => aj_u2_ne hn
    refine h1 _ Z _ en hz zc (fun x hx => f x (by omega)) (fun j hj => by rw [f 21 (by omega)]) ⟨by rw [f 21 (by omega)]; exact d1, by rw [f 23 (by omega), f 24 (by omega)]; exact d2, by rw [f 21 (by omega)]; exact d3, by rw [f 21 (by omega)]; exact d4, by rw [f 21 (by omega)]; exact d5, by rw [f 21 (by omega)]; exact d6, by rw [f 21 (by omega)]; exact d7, d8, fun t ht => ⟨?_, fun k hk => ?_⟩⟩
    · show aj_u2 I (25 + 9 * (ps_fd s - 1)) 5 (nI (ps_p s)) (25 + 9 * t) 5 = oN (va_up (ps_sb s) (ps_fd s - 1) (some (ps_p s)) t)
      by_cases z : t = ps_fd s - 1
      · rw [z, aj_u2_at, aj_up_eq]; rfl
      · rw [f _ (by omega), aj_up_ne z]; exact (d9 t ht).1
    · have hI := f (25 + 9 * t + 5 + k) (by omega)
      have hold := (d9 t ht).2 k hk
      refine ⟨by rw [hI]; exact hold.1, fun v hv => ?_⟩
      have := hold.2 v hv
      unfold tbC at this ⊢
      rw [hI]; exact this
  · have hl3 : ps_lv s = 3 := by
      have g0 : ps_lv s ≠ 0 := fun z => a1 (l0.mpr z)
      have g1 : ps_lv s ≠ 1 := fun z => a2 (l1.mpr z)
      have g2 : ps_lv s ≠ 2 := fun z => a3 (l2.mpr z)
      omega
    exact T_keepTable hz zc hlen hB hC hl3 h13 h14 h15 hce (fun en => b_96_92 hJ nar0 (h0 I en (fun _ _ => rfl) rfl)) (fun s' I' en hfr hC' => b_96_92 hJ nar1 (h1 s' Z I' en hz zc (fun x hx => hfr x (by omega)) (fun j _ => by rw [hfr 21 (by omega)]) hC'))
end RQ
