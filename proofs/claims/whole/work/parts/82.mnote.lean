/-! read: the reference on its way through the boxes -/
def fmT (I : aj_I) (s : r_ps) : Prop := I 54 11 = (if (ps_m s).1 then 1 else 0) ∧ I 54 12 = (if (ps_m s).2.1 then 1 else 0) ∧ ((ps_m s).2.1 = true → I 54 13 = nI (ps_m s).2.2.1 ∧ I 54 14 = nI (ps_m s).2.2.2) ∧ I 54 15 = nI (ps_fd s) ∧
  ∀ t, t < ps_fd s → I 62 t = oN (ps_sb s t) ∧ ∀ k, k < 4 → I 63 (4 * t + k) = oN ((ps_tb s t k).map (fun x => x.1)) ∧ ∀ x, ps_tb s t k = some x → I 64 (4 * t + k) = nI x.2.1 ∧ I 65 (4 * t + k) = nI x.2.2 ∧ (k = 3 → I 66 t = if ps_wd s t then 1 else 0)
def fdM (I : aj_I) (s : r_ps) : Prop := I 54 8 = nI (ps_lv s) ∧ (∀ i, i ≤ ps_lv s → I 60 i = nI (ps_hm s i) ∧ I 61 i = nI (ps_en s i)) ∧ fmT I s
theorem fmT.same {I I' : aj_I} {s : r_ps} (h : fmT I s) (h54 : ∀ j, 11 ≤ j → j ≤ 15 → I' 54 j = I 54 j) (hI : ∀ a, 62 ≤ a → a ≤ 66 → I' a = I a) : fmT I' s := by
  unfold fmT at h ⊢
  rw [h54 11 (by decide) (by decide), h54 12 (by decide) (by decide), h54 13 (by decide) (by decide), h54 14 (by decide) (by decide), h54 15 (by decide) (by decide), hI 62 (by decide) (by decide), hI 63 (by decide) (by decide), hI 64 (by decide) (by decide), hI 65 (by decide) (by decide), hI 66 (by decide) (by decide)]
  exact h
theorem fdM.same {I I' : aj_I} {s : r_ps} (h : fdM I s) (h54 : ∀ j, 8 ≤ j → j ≤ 15 → I' 54 j = I 54 j) (hI : ∀ a, 60 ≤ a → a ≤ 66 → I' a = I a) : fdM I' s := by
  refine ⟨by rw [h54 8 (by decide) (by decide)]; exact h.1, by rw [hI 60 (by decide) (by decide), hI 61 (by decide) (by decide)]; exact h.2.1, h.2.2.same (fun j j1 j2 => h54 j (by omega) j2) (fun a a1 a2 => hI a (by omega) a2)⟩
theorem r_note_3n {s : r_ps} {ty : Int32} {ct e : Nat} (h0 : ps_lv s ≠ 0) (h1 : ps_lv s ≠ 1) (h2 : ps_lv s ≠ 2) (ht : r_tab ty = none) : r_note s ty ct e = some s := by
  unfold r_note
  rw [if_neg h0, if_neg h1, if_neg h2]
  simp only [ht]
theorem r_note_3f {s : r_ps} {ty : Int32} {ct e k : Nat} {w : Bool} (h0 : ps_lv s ≠ 0) (h1 : ps_lv s ≠ 1) (h2 : ps_lv s ≠ 2) (ht : r_tab ty = some (k, w)) (hn : ps_tb s (ps_fd s - 1) k ≠ none) : r_note s ty ct e = none := by
  unfold r_note
  rw [if_neg h0, if_neg h1, if_neg h2]
  simp only [ht]
  rw [if_neg hn]
theorem r_note_3s {s : r_ps} {ty : Int32} {ct e k : Nat} {w : Bool} (h0 : ps_lv s ≠ 0) (h1 : ps_lv s ≠ 1) (h2 : ps_lv s ≠ 2) (ht : r_tab ty = some (k, w)) (hn : ps_tb s (ps_fd s - 1) k = none) : r_note s ty ct e = some (s.1, s.2.1, s.2.2.1, s.2.2.2.1, ps_fd s, ps_p s, ps_sb s, aj_u2 (ps_tb s) (ps_fd s - 1) k (some (ps_p s, ct, e)), if k = 3 then va_up (ps_wd s) (ps_fd s - 1) w else ps_wd s) := by
  unfold r_note
  rw [if_neg h0, if_neg h1, if_neg h2]
  simp only [ht]
  rw [if_pos hn]
theorem sm_4 (t i : Nat) : (4 : Int32) * nI t + nI i = nI (4 * t + i) := by rw [show (4 : Int32) = nI 4 from rfl, pk_mul, nI_add]
section MB
variable {Z : aj_Z} {I : aj_I} {G : aj_G} {Q : aj_Q} {len : Nat} {b : Nat → Nat} {s : r_ps} {d mc ms : Nat}
theorem tb_none {len t k : Nat} (hlen : len ≤ 1200) {lv : Nat} (hB : r_B len lv s) (hM : fmT I s) (ht : t < ps_fd s) (hk : k < 4) : I 63 (4 * t + k) < 0 ↔ ps_tb s t k = none := by
  rw [((hM.2.2.2.2 t ht).2 k hk).1, oN_neg]
  · cases ps_tb s t k <;> simp
  · intro p hp
    cases e : ps_tb s t k with
    | none => rw [e] at hp; cases hp
    | some x =>
      rw [e] at hp
      cases hp
      have := ((hB.2.2.2.1 t ht).2 k hk x e).1
      exact Nat.le_trans this hlen
theorem sb_none {len t : Nat} (hlen : len ≤ 1200) {lv : Nat} (hB : r_B len lv s) (hM : fmT I s) (ht : t < ps_fd s) : I 62 t < 0 ↔ ps_sb s t = none := by
  rw [(hM.2.2.2.2 t ht).1, oN_neg]
  intro p hp
  exact Nat.le_trans ((hB.2.2.2.1 t ht).1 p hp) hlen
theorem M_isTooMany (hz : zAll Z) (hlen : len ≤ 1200) (hlv : ps_lv s < 4) (hB : r_B len (ps_lv s) s) (hM : fdM I s) {ty : Int32} {ct e : Nat} (h21 : I 54 21 = ty) (h0 : r_note s ty ct e ≠ none → Q (some (.int 0)) Z I G) (h1 : r_note s ty ct e = none → Q (some (.int 1)) Z I G) : aj_T (d + 2) mc ms 44 [.ref 54] Z I G Q := by
  have e5 := hM.1
  have lvE : ∀ j : Nat, j < 2 ^ 31 → (I 54 8 = nI j ↔ ps_lv s = j) := fun j hj => by rw [e5]; exact nI_eq (by omega) hj
  have l0 : I 54 8 = 0 ↔ ps_lv s = 0 := lvE 0 (by decide)
  have l1 : I 54 8 = 1 ↔ ps_lv s = 1 := lvE 1 (by decide)
  have l2 : I 54 8 = 2 ↔ ps_lv s = 2 := lvE 2 (by decide)
  have m0 : I 54 11 = 1 ↔ (ps_m s).1 = true := by rw [hM.2.2.1]; cases (ps_m s).1 <;> decide
  have m1 : I 54 12 = 1 ↔ (ps_m s).2.1 = true := by rw [hM.2.2.2.1]; cases (ps_m s).2.1 <;> decide
  have h15 := hM.2.2.2.2.2.1
  have hfd := hB.1
  have pr : 1 ≤ ps_fd s → I 54 15 - 1 = nI (ps_fd s - 1) := fun h => by rw [h15, show (1 : Int32) = nI 1 from rfl, pk_sub h]
  refine t_44 fun J hJ => ?_
  -- at the file's level, behind moov
  have md : ps_lv s = 0 → ¬ (ty = 1836019574 ∧ (ps_m s).1 = true) → J 24 [some (.ref 54), none, none] [] Z I G (0, 0) := by
    intro a n
    refine b_44_24 hJ (zk_54 hz) (fun z => h0 ?_) (fun z y => h0 ?_) (fun z y => h1 ?_)
    · rw [h21] at z
      unfold r_note
      rw [if_pos a]
      by_cases q : ty = 1836019574
      · rw [if_pos q, if_neg (fun x => n ⟨q, x⟩)]; exact fun x => (by cases x)
      · rw [if_neg q, if_neg z]; exact fun x => (by cases x)
    · rw [h21] at z
      have y : ¬ (ps_m s).2.1 = true := fun x => y (m1.mpr x)
      unfold r_note
      rw [if_pos a, if_neg (by rw [z]; decide), if_pos z, if_neg y]
      exact fun x => (by cases x)
    · rw [h21] at z
      have y := m1.mp y
      unfold r_note
      rw [if_pos a, if_neg (by rw [z]; decide), if_pos z, if_pos y]
  refine b_44_0 hJ (zk_54 hz) (fun a0 a1 a2 => ?_) (fun a0 a1 a2 z => h0 ?_) (zr_54_16 hz) (zk_62 hz) (fun a0 a1 a2 z => ?_) (fun a0 a1 a2 z y => h0 ?_) (fun a0 a1 a2 z y => h1 ?_) (fun a0 a1 z => h0 ?_) (fun a0 a1 z y => h0 ?_) (fun a0 a1 z y => h1 ?_) (fun a z => md (l0.mp a) (fun x => z (by rw [h21]; exact x.1))) (fun a z y => h1 ?_) (fun a z y => md (l0.mp a) (fun x => y (m0.mpr x.2)))
  · have a0 : ps_lv s ≠ 0 := fun z => a0 (l0.mpr z)
    have a1 : ps_lv s ≠ 1 := fun z => a1 (l1.mpr z)
    have a2 : ps_lv s ≠ 2 := fun z => a2 (l2.mpr z)
    have hf1 := hB.2.1 (by omega)
    rw [h21, pr hf1]
    have ng : (-1 : Int32) < 0 := by decide
    refine M_tableOf (fun ht => b_44_124 hJ (fun _ => h0 (by rw [r_note_3n a0 a1 a2 ht]; exact fun x => (by cases x))) (zk_54 hz) (zr_54_17 hz) (zk_63 hz) (fun z => absurd ng z) (fun z => absurd ng z) (fun z => absurd ng z)) (fun k w ht => ?_)
    have hk := (r_tab_b ht).1
    have hnn := tb_none (k := k) hlen hB hM.2.2 (show ps_fd s - 1 < ps_fd s by omega) hk
    refine b_44_124 hJ (fun z => absurd z (nI_pos (by omega))) (zk_54 hz) (zr_54_17 hz) (zk_63 hz) (fun _ => by rw [sm_4]; exact vp_in_nI (by omega) (by decide)) (fun _ z => h0 ?_) (fun _ z => h1 ?_)
    · rw [sm_4, nI_clamp (by omega), hnn] at z
      rw [r_note_3s a0 a1 a2 ht z]; exact fun x => (by cases x)
    · rw [sm_4, nI_clamp (by omega), hnn] at z
      exact r_note_3f a0 a1 a2 ht z
  · have a := l2.mp a2
    rw [h21] at z
    unfold r_note
    rw [if_neg (by omega), if_neg (by omega), if_pos a, if_neg z]; exact fun x => (by cases x)
  · have a := l2.mp a2
    have hf1 := hB.2.1 (by omega)
    rw [pr hf1]; exact vp_in_nI (by omega) (by decide)
  · have a := l2.mp a2
    have hf1 := hB.2.1 (by omega)
    rw [h21] at z
    rw [pr hf1, nI_clamp (by omega), sb_none hlen hB hM.2.2 (by omega)] at y
    unfold r_note
    rw [if_neg (by omega), if_neg (by omega), if_pos a, if_pos z, if_pos y]; exact fun x => (by cases x)
  · have a := l2.mp a2
    have hf1 := hB.2.1 (by omega)
    rw [h21] at z
    rw [pr hf1, nI_clamp (by omega), sb_none hlen hB hM.2.2 (by omega)] at y
    unfold r_note
    rw [if_neg (by omega), if_neg (by omega), if_pos a, if_pos z, if_neg y]
  · have a := l1.mp a1
    rw [h21] at z
    unfold r_note
    rw [if_neg (by omega), if_pos a, if_neg z]; exact fun x => (by cases x)
  · have a := l1.mp a1
    rw [h21] at z
    have y : ps_fd s ≠ 3 := fun x => y (by rw [h15, x]; rfl)
    unfold r_note
    rw [if_neg (by omega), if_pos a, if_pos z, if_pos (by omega)]; exact fun x => (by cases x)
  · have a := l1.mp a1
    rw [h21] at z
    rw [h15] at y
    have y : ps_fd s = 3 := (nI_eq (b := 3) (by omega) (by decide)).mp y
    unfold r_note
    rw [if_neg (by omega), if_pos a, if_pos z, if_neg (by omega)]
  · have a := l0.mp a
    rw [h21] at z
    have y := m0.mp y
    unfold r_note
    rw [if_pos a, if_pos z, if_pos y]
theorem M_isGoneInto (hz : zAll Z) (hlv : ps_lv s < 4) (h8 : I 54 8 = nI (ps_lv s)) {ty : Int32} (h21 : I 54 21 = ty) (h0 : ¬ (ps_lv s < 3 ∧ ty = aj_gv (ps_lv s)) → Q (some (.int 0)) Z I G) (h1 : ps_lv s < 3 ∧ ty = aj_gv (ps_lv s) → Q (some (.int 1)) Z I G) : aj_T (d + 1) mc ms 45 [.ref 54] Z I G Q := by
  have lvE : ∀ j : Nat, j < 2 ^ 31 → (I 54 8 = nI j ↔ ps_lv s = j) := fun j hj => by rw [h8]; exact nI_eq (by omega) hj
  have l0 : I 54 8 = 0 ↔ ps_lv s = 0 := lvE 0 (by decide)
  have l1 : I 54 8 = 1 ↔ ps_lv s = 1 := lvE 1 (by decide)
  have l3 : (3 : Int32) ≤ I 54 8 ↔ 3 ≤ ps_lv s := by rw [h8]; exact nI_leI (a := 3) (by decide) (by omega)
  have g0 : aj_gv 0 = 1836019574 := rfl
  have g1 : aj_gv 1 = 1953653099 := rfl
  have g2 : aj_gv 2 = 1937007212 := rfl
  refine t_45 fun J hJ => b_45_0 hJ (zk_54 hz) (fun a0 a1 => ?_) (fun a0 a1 => ?_) (fun a0 => ?_)
  · have a0 : ps_lv s ≠ 0 := fun z => a0 (l0.mpr z)
    have a1 : ps_lv s ≠ 1 := fun z => a1 (l1.mpr z)
    refine b_45_31 hJ (fun z => h0 (fun y => z ?_)) (zk_54 hz) (fun _ z => h0 (fun y => ?_)) (fun z y => h1 ⟨?_, ?_⟩)
    · rw [h21, y.2, show ps_lv s = 2 by omega]; exact g2
    · have := l3.mp z; omega
    · have : ¬ 3 ≤ ps_lv s := fun x => y (l3.mpr x)
      omega
    · have : ¬ 3 ≤ ps_lv s := fun x => y (l3.mpr x)
      rw [h21] at z
      rw [show ps_lv s = 2 by omega, g2]; exact z
  · have a1 := l1.mp a1
    refine b_45_31 hJ (fun z => h0 (fun y => z ?_)) (zk_54 hz) (fun _ z => h0 (fun y => ?_)) (fun z y => h1 ⟨by omega, ?_⟩)
    · rw [h21, y.2, a1]; exact g1
    · have := l3.mp z; omega
    · rw [h21] at z
      rw [a1, g1]; exact z
  · have a1 := l0.mp a0
    refine b_45_31 hJ (fun z => h0 (fun y => z ?_)) (zk_54 hz) (fun _ z => h0 (fun y => ?_)) (fun z y => h1 ⟨by omega, ?_⟩)
    · rw [h21, y.2, a1]; exact g0
    · have := l3.mp z; omega
    · rw [h21] at z
      rw [a1, g0]; exact z
theorem M_isWhole (hz : zAll Z) (hlen : len ≤ 1200) (hlv : ps_lv s < 4) (hB : r_B len (ps_lv s) s) (hM : fdM I s) (h1 : r_whole s → Q (some (.int 1)) Z I G) (h0 : ¬ r_whole s → Q (some (.int 0)) Z I G) : aj_T (d + 1) mc ms 47 [.ref 54] Z I G Q := by
  have e5 := hM.1
  have lvE : ∀ j : Nat, j < 2 ^ 31 → (I 54 8 = nI j ↔ ps_lv s = j) := fun j hj => by rw [e5]; exact nI_eq (by omega) hj
  have l1 : I 54 8 = 1 ↔ ps_lv s = 1 := lvE 1 (by decide)
  have l2 : I 54 8 = 2 ↔ ps_lv s = 2 := lvE 2 (by decide)
  have l3 : I 54 8 = 3 ↔ ps_lv s = 3 := lvE 3 (by decide)
  have m0 : I 54 11 = 1 ↔ (ps_m s).1 = true := by rw [hM.2.2.1]; cases (ps_m s).1 <;> decide
  have m1 : I 54 12 = 1 ↔ (ps_m s).2.1 = true := by rw [hM.2.2.2.1]; cases (ps_m s).2.1 <;> decide
  have h15 := hM.2.2.2.2.2.1
  have hfd := hB.1
  have pr : 1 ≤ ps_fd s → I 54 15 - 1 = nI (ps_fd s - 1) := fun h => by rw [h15, show (1 : Int32) = nI 1 from rfl, pk_sub h]
  have l0 : ¬ I 54 8 = 3 → ¬ I 54 8 = 2 → ¬ I 54 8 = 1 → ps_lv s = 0 := fun a3 a2 a1 => by
    have b3 : ps_lv s ≠ 3 := fun z => a3 (l3.mpr z)
    have b2 : ps_lv s ≠ 2 := fun z => a2 (l2.mpr z)
    have b1 : ps_lv s ≠ 1 := fun z => a1 (l1.mpr z)
    omega
  have i0 : 1 ≤ ps_fd s → 4 * (I 54 15 - 1) = nI (4 * (ps_fd s - 1)) := fun h => by rw [pr h]; exact pk_mul 4 _
  have i1 : 1 ≤ ps_fd s → 4 * (I 54 15 - 1) + 1 = nI (4 * (ps_fd s - 1) + 1) := fun h => by rw [i0 h]; exact nI_add _ 1
  have i2 : 1 ≤ ps_fd s → 4 * (I 54 15 - 1) + 2 = nI (4 * (ps_fd s - 1) + 2) := fun h => by rw [i0 h]; exact nI_add _ 2
  have i3 : 1 ≤ ps_fd s → 4 * (I 54 15 - 1) + 3 = nI (4 * (ps_fd s - 1) + 3) := fun h => by rw [i0 h]; exact nI_add _ 3
  have f1 : I 54 8 = 3 → 1 ≤ ps_fd s := fun a => hB.2.1 (by have := l3.mp a; omega)
  have f2 : I 54 8 = 2 → 1 ≤ ps_fd s := fun a => hB.2.1 (by have := l2.mp a; omega)
  have n0 : ∀ a : I 54 8 = 3, I 63 (4 * (I 54 15 - 1)).toNatClampNeg < 0 ↔ ps_tb s (ps_fd s - 1) 0 = none := fun a => by
    have := f1 a
    rw [i0 this, nI_clamp (by omega)]; exact tb_none (k := 0) hlen hB hM.2.2 (by omega) (by decide)
  have n1 : ∀ a : I 54 8 = 3, I 63 (4 * (I 54 15 - 1) + 1).toNatClampNeg < 0 ↔ ps_tb s (ps_fd s - 1) 1 = none := fun a => by
    have := f1 a
    rw [i1 this, nI_clamp (by omega)]; exact tb_none (k := 1) hlen hB hM.2.2 (by omega) (by decide)
  have n2 : ∀ a : I 54 8 = 3, I 63 (4 * (I 54 15 - 1) + 2).toNatClampNeg < 0 ↔ ps_tb s (ps_fd s - 1) 2 = none := fun a => by
    have := f1 a
    rw [i2 this, nI_clamp (by omega)]; exact tb_none (k := 2) hlen hB hM.2.2 (by omega) (by decide)
  have n3 : ∀ a : I 54 8 = 3, I 63 (4 * (I 54 15 - 1) + 3).toNatClampNeg < 0 ↔ ps_tb s (ps_fd s - 1) 3 = none := fun a => by
    have := f1 a
    rw [i3 this, nI_clamp (by omega)]; exact tb_none (k := 3) hlen hB hM.2.2 (by omega) (by decide)
  have sn : ∀ a : I 54 8 = 2, I 62 (I 54 15 - 1).toNatClampNeg < 0 ↔ ps_sb s (ps_fd s - 1) = none := fun a => by
    have := f2 a
    rw [pr this, nI_clamp (by omega)]; exact sb_none hlen hB hM.2.2 (by omega)
  refine t_47 fun J hJ => b_47_0 hJ (zk_54 hz) (fun a3 a2 a1 => h1 ?_) (fun a3 a2 a1 z => h0 (fun y => z (m0.mpr (y.1 (l0 a3 a2 a1)).1))) (fun a3 a2 a1 _ z => h0 (fun y => z (m1.mpr (y.1 (l0 a3 a2 a1)).2))) (fun a3 a2 a1 z y => h1 ?_) (zr_54_16 hz) (zk_62 hz) (fun a3 a2 => ?_) (fun a3 a2 z => h0 (fun y => y.2.1 (l2.mp a2) ((sn a2).mp z))) (fun a3 a2 z => h1 ?_) (zr_54_17 hz) (zk_63 hz) (fun a => ?_) (fun a z => h0 (fun y => y.2.2 (l3.mp a) 0 (by decide) ((n0 a).mp z))) (fun a _ => ?_) (fun a _ z => h0 (fun y => y.2.2 (l3.mp a) 1 (by decide) ((n1 a).mp z))) (fun a _ _ => ?_) (fun a _ _ z => h0 (fun y => y.2.2 (l3.mp a) 2 (by decide) ((n2 a).mp z))) (fun a _ _ _ => ?_) (fun a _ _ _ z => h0 (fun y => y.2.2 (l3.mp a) 3 (by decide) ((n3 a).mp z))) (fun a z0 z1 z2 z3 => h1 ?_)
  · have := l1.mp a1
    exact ⟨fun y => absurd y (by omega), fun y => absurd y (by omega), fun y => absurd y (by omega)⟩
  · have := l0 a3 a2 a1
    exact ⟨fun _ => ⟨m0.mp z, m1.mp y⟩, fun y => absurd y (by omega), fun y => absurd y (by omega)⟩
  · have := f2 a2
    rw [pr this]; exact vp_in_nI (by omega) (by decide)
  · have := l2.mp a2
    exact ⟨fun y => absurd y (by omega), fun _ y => z ((sn a2).mpr y), fun y => absurd y (by omega)⟩
  · have := f1 a
    rw [i0 this]; exact vp_in_nI (by omega) (by decide)
  · have := f1 a
    rw [i1 this]; exact vp_in_nI (by omega) (by decide)
  · have := f1 a
    rw [i2 this]; exact vp_in_nI (by omega) (by decide)
  · have := f1 a
    rw [i3 this]; exact vp_in_nI (by omega) (by decide)
  · have := l3.mp a
    refine ⟨fun y => absurd y (by omega), fun y => absurd y (by omega), fun _ k hk => ?_⟩
    rcases r_k4 hk with q | q | q | q <;> subst q
    · exact fun y => z0 ((n0 a).mpr y)
    · exact fun y => z1 ((n1 a).mpr y)
    · exact fun y => z2 ((n2 a).mpr y)
    · exact fun y => z3 ((n3 a).mpr y)
end MB
