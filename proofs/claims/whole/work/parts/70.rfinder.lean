/-! read: the class's Finder and the way through the boxes -/
def fdC (Z : aj_Z) (I : aj_I) (s : r_ps) : Prop := I 21 5 = nI (ps_lv s) ∧ (∀ i, i ≤ ps_lv s → I 23 i = nI (ps_hm s i) ∧ I 24 i = nI (ps_en s i)) ∧ I 21 6 = (if (ps_m s).1 then 1 else 0) ∧ I 21 7 = (if (ps_m s).2.1 then 1 else 0) ∧ ((ps_m s).2.1 = true → I 21 8 = nI (ps_m s).2.2.1 ∧ I 21 9 = nI (ps_m s).2.2.2) ∧ I 21 10 = nI (ps_fd s) ∧ I 21 12 = nI (ps_p s) ∧ (1 ≤ ps_fd s → Z.2.2 21 11 = .ref (25 + 9 * (ps_fd s - 1))) ∧
  ∀ t, t < ps_fd s → I (25 + 9 * t) 5 = oN (ps_sb s t) ∧ ∀ k, k < 4 → I (25 + 9 * t + 5 + k) 1 = oN ((ps_tb s t k).map (fun x => x.1)) ∧ ∀ x, ps_tb s t k = some x → tbC I (25 + 9 * t + 5 + k) k (ps_wd s t) x.1 x.2.1 x.2.2
theorem r_cur {Z : aj_Z} {I : aj_I} {s : r_ps} (hz : zAll Z) (zc : zCur Z) (hC : fdC Z I s) : ∃ q, Z.2.2 21 11 = .ref q ∧ Z.2.1 q = some (.inl 9) ∧ (1 ≤ ps_fd s → q = 25 + 9 * (ps_fd s - 1)) := by
  obtain ⟨t, ht, e⟩ := zc
  refine ⟨25 + 9 * t, e, (zTB_t hz ht).1, fun h => ?_⟩
  have := hC.2.2.2.2.2.2.2.1 h
  rw [e] at this
  injection this
section RF
variable {Z : aj_Z} {I : aj_I} {G : aj_G} {Q : aj_Q} {len : Nat} {b : Nat → Nat} {s : r_ps} {d mc ms : Nat}
theorem T_levelIsWhole (hz : zAll Z) (zc : zCur Z) (hlen : len ≤ 1200) (hA : r_A len s) (hB : r_B len (ps_lv s) s) (hC : fdC Z I s) (h1 : r_whole s → Q (some (.int 1)) Z I G) (h2 : ¬ r_whole s → Q (some (.int 0)) Z I G) : aj_T (d + 3) mc ms 101 [.ref 21] Z I G Q := by
  obtain ⟨q, c1, c2, c3⟩ := r_cur hz zc hC
  have hlv := hA.1
  have e5 := hC.1
  have lvE : ∀ j : Nat, j < 2 ^ 31 → (I 21 5 = nI j ↔ ps_lv s = j) := fun j hj => by rw [e5]; exact nI_eq (by omega) hj
  have l0 : I 21 5 = 0 ↔ ps_lv s = 0 := lvE 0 (by decide)
  have l1 : I 21 5 = 1 ↔ ps_lv s = 1 := lvE 1 (by decide)
  have l2 : I 21 5 = 2 ↔ ps_lv s = 2 := lvE 2 (by decide)
  have l3 : I 21 5 = 3 ↔ ps_lv s = 3 := lvE 3 (by decide)
  have m0 : I 21 6 = 0 ↔ (ps_m s).1 = false := by rw [hC.2.2.1]; cases (ps_m s).1 <;> decide
  have m1 : I 21 7 = 0 ↔ (ps_m s).2.1 = false := by rw [hC.2.2.2.1]; cases (ps_m s).2.1 <;> decide
  have nar1 : narrow .boolean (.int 1) = .int 1 := rfl
  have nar0 : narrow .boolean (.int 0) = .int 0 := rfl
  refine t_101 fun J hJ => b_101_0 hJ (zk_21 hz) (fun a z => h2 (fun y => ?_)) (fun a _ z => h2 (fun y => ?_)) (fun a z y => h1 ⟨fun _ => ⟨?_, ?_⟩, fun x => ?_, fun x => ?_⟩) (fun a z => h1 ⟨fun x => absurd (l0.mpr x) a, fun x => ?_, fun x => ?_⟩) c1 c2 (fun a1 a2 a3 => ?_) (fun a1 a2 a3 a4 => ?_) (fun a1 a2 a3 a4 => ?_)
  · have := (y.1 (l0.mp a)).1; rw [m0.mp z] at this; cases this
  · have := (y.1 (l0.mp a)).2; rw [m1.mp z] at this; cases this
  · cases e : (ps_m s).1
    · exact absurd (m0.mpr e) z
    · rfl
  · cases e : (ps_m s).2.1
    · exact absurd (m1.mpr e) y
    · rfl
  · have := l0.mp a; omega
  · have := l0.mp a; omega
  · have := l1.mp z; omega
  · have := l1.mp z; omega
  · have a3 := l2.mp a3
    have hf1 := hB.2.1 (by omega)
    have hf3 := hB.1
    have eq := c3 hf1
    subst eq
    have hT := hC.2.2.2.2.2.2.2.2 (ps_fd s - 1) (by omega)
    have hb := hB.2.2.2.1 (ps_fd s - 1) (by omega)
    exact T_hasStbl (zTB_t hz (by omega)) (fun p hp => Nat.le_trans (hb.1 p hp) hlen) hT.1 (fun x => b_101_63 hJ nar0 (h2 (fun y => y.2.1 a3 x))) (fun x => b_101_63 hJ nar1 (h1 ⟨fun y => absurd y (by omega), fun _ => x, fun y => absurd y (by omega)⟩))
  · have a4 := l3.mp a4
    have hf1 := hB.2.1 (by omega)
    have hf3 := hB.1
    have eq := c3 hf1
    subst eq
    have hT := hC.2.2.2.2.2.2.2.2 (ps_fd s - 1) (by omega)
    have hb := hB.2.2.2.1 (ps_fd s - 1) (by omega)
    have hm : ∀ k, (ps_tb s (ps_fd s - 1) k).map (fun x => x.1) ≠ none ↔ ps_tb s (ps_fd s - 1) k ≠ none := fun k => by cases ps_tb s (ps_fd s - 1) k <;> simp
    refine T_hasAllTables (x := fun k => (ps_tb s (ps_fd s - 1) k).map (fun x => x.1)) (zTB_t hz (by omega)) (fun k hk p hp => ?_) (fun k hk => (hT.2 k hk).1) (fun x => b_101_71 hJ nar1 (h1 ⟨fun y => absurd y (by omega), fun y => absurd y (by omega), fun _ k hk => (hm k).mp (x k hk)⟩)) (fun x => b_101_71 hJ nar0 (h2 (fun y => x (fun k hk => (hm k).mpr (y.2.2 a4 k hk)))))
    cases e : ps_tb s (ps_fd s - 1) k with
    | none => simp [e] at hp
    | some x =>
      simp [e] at hp
      have := (hb.2 k hk x e).1
      omega
  · exact absurd (l3.mpr (by have h0 : ps_lv s ≠ 0 := fun y => a1 (l0.mpr y); have h1 : ps_lv s ≠ 1 := fun y => a2 (l1.mpr y); have h2 : ps_lv s ≠ 2 := fun y => a3 (l2.mpr y); omega)) a4
end RF
