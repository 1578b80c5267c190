/-! read: the reference notes a box -/
theorem fmT_tab {I : aj_I} {s : r_ps} {ct e k : Nat} {w : Bool} {v : Int32} (hM : fmT I s) (hk : k < 4) (hf1 : 1 ≤ ps_fd s) (h3 : k = 3 → v = if w then 1 else 0) (hv : k ≠ 3 → ∀ x, ps_tb s (ps_fd s - 1) 3 = some x → v = if ps_wd s (ps_fd s - 1) then 1 else 0) :
    fmT (aj_u2 (aj_u2 (aj_u2 (aj_u2 I 63 (4 * (ps_fd s - 1) + k) (nI (ps_p s))) 64 (4 * (ps_fd s - 1) + k) (nI ct)) 65 (4 * (ps_fd s - 1) + k) (nI e)) 66 (ps_fd s - 1) v) (s.1, s.2.1, s.2.2.1, s.2.2.2.1, ps_fd s, ps_p s, ps_sb s, aj_u2 (ps_tb s) (ps_fd s - 1) k (some (ps_p s, ct, e)), if k = 3 then va_up (ps_wd s) (ps_fd s - 1) w else ps_wd s) := by
  obtain ⟨a1, a2, a3, a4, a5⟩ := hM
  have u : ∀ (x y z q : Int32) (i t a : Nat), a ≠ 63 → a ≠ 64 → a ≠ 65 → a ≠ 66 → (aj_u2 (aj_u2 (aj_u2 (aj_u2 I 63 i x) 64 i y) 65 i z) 66 t q) a = I a := fun x y z q i t a q1 q2 q3 q4 => by rw [aj_u2_ne q4, aj_u2_ne q3, aj_u2_ne q2, aj_u2_ne q1]
  have u63 : ∀ (x y z q : Int32) (i t : Nat), (aj_u2 (aj_u2 (aj_u2 (aj_u2 I 63 i x) 64 i y) 65 i z) 66 t q) 63 = aj_u2 I 63 i x 63 := fun x y z q i t => by rw [aj_u2_ne (show 63 ≠ 66 by decide), aj_u2_ne (show 63 ≠ 65 by decide), aj_u2_ne (show 63 ≠ 64 by decide)]
  have u64 : ∀ (x y z q : Int32) (i t : Nat), (aj_u2 (aj_u2 (aj_u2 (aj_u2 I 63 i x) 64 i y) 65 i z) 66 t q) 64 = va_up (I 64) i y := fun x y z q i t => by rw [aj_u2_ne (show 64 ≠ 66 by decide), aj_u2_ne (show 64 ≠ 65 by decide), aj_u2_eq, aj_u2_ne (show 64 ≠ 63 by decide)]
  have u65 : ∀ (x y z q : Int32) (i t : Nat), (aj_u2 (aj_u2 (aj_u2 (aj_u2 I 63 i x) 64 i y) 65 i z) 66 t q) 65 = va_up (I 65) i z := fun x y z q i t => by rw [aj_u2_ne (show 65 ≠ 66 by decide), aj_u2_eq, aj_u2_ne (show 65 ≠ 64 by decide), aj_u2_ne (show 65 ≠ 63 by decide)]
  have u66 : ∀ (x y z q : Int32) (i t : Nat), (aj_u2 (aj_u2 (aj_u2 (aj_u2 I 63 i x) 64 i y) 65 i z) 66 t q) 66 = va_up (I 66) t q := fun x y z q i t => by rw [aj_u2_eq, aj_u2_ne (show 66 ≠ 65 by decide), aj_u2_ne (show 66 ≠ 64 by decide), aj_u2_ne (show 66 ≠ 63 by decide)]
  unfold fmT
  rw [u _ _ _ _ _ _ 54 (by decide) (by decide) (by decide) (by decide), u _ _ _ _ _ _ 62 (by decide) (by decide) (by decide) (by decide), u63, u64, u65, u66, aj_u2_eq]
  refine ⟨a1, a2, a3, a4, fun t ht => ?_⟩
  have ht : t < ps_fd s := ht
  have h5 := a5 t ht
  refine ⟨h5.1, fun j hj => ?_⟩
  show va_up (I 63) (4 * (ps_fd s - 1) + k) (nI (ps_p s)) (4 * t + j) = oN ((aj_u2 (ps_tb s) (ps_fd s - 1) k (some (ps_p s, ct, e)) t j).map (fun x => x.1)) ∧ ∀ x, aj_u2 (ps_tb s) (ps_fd s - 1) k (some (ps_p s, ct, e)) t j = some x → va_up (I 64) (4 * (ps_fd s - 1) + k) (nI ct) (4 * t + j) = nI x.2.1 ∧ va_up (I 65) (4 * (ps_fd s - 1) + k) (nI e) (4 * t + j) = nI x.2.2 ∧ (j = 3 → va_up (I 66) (ps_fd s - 1) v t = if (if k = 3 then va_up (ps_wd s) (ps_fd s - 1) w else ps_wd s) t then 1 else 0)
  by_cases q1 : t = ps_fd s - 1
  · by_cases q2 : j = k
    · subst q1 q2
      rw [aj_up_eq, aj_u2_at, aj_up_eq, aj_up_eq, aj_up_eq]
      refine ⟨rfl, fun x hx => ?_⟩
      cases hx
      refine ⟨rfl, rfl, fun q3 => ?_⟩
      rw [if_pos q3, aj_up_eq]
      exact h3 q3
    · rw [aj_up_ne (by omega), aj_up_ne (by omega), aj_up_ne (by omega), q1, aj_u2_n2 q2, aj_up_eq]
      rw [q1] at h5
      refine ⟨(h5.2 j hj).1, fun x hx => ?_⟩
      have h6 := (h5.2 j hj).2 x hx
      refine ⟨h6.1, h6.2.1, fun q3 => ?_⟩
      have qk : k ≠ 3 := fun z => q2 (by omega)
      rw [if_neg qk]
      subst q3
      exact hv qk x hx
  · rw [aj_up_ne (by omega), aj_up_ne (by omega), aj_up_ne (by omega), aj_u2_ne q1, aj_up_ne q1]
    refine ⟨(h5.2 j hj).1, fun x hx => ?_⟩
    have h6 := (h5.2 j hj).2 x hx
    refine ⟨h6.1, h6.2.1, fun q3 => ?_⟩
    have : (if k = 3 then va_up (ps_wd s) (ps_fd s - 1) w else ps_wd s) t = ps_wd s t := by
      split
      · rw [aj_up_ne q1]
      · rfl
    rw [this]
    exact h6.2.2 q3
section MC
variable {Z : aj_Z} {I : aj_I} {G : aj_G} {Q : aj_Q} {len : Nat} {b : Nat → Nat} {s s' : r_ps} {d mc ms : Nat}
theorem M_note (hz : zAll Z) (hlv : ps_lv s < 4) (hB : r_B len (ps_lv s) s) (hM : fdM I s) {ty : Int32} {ct e : Nat} (h21 : I 54 21 = ty) (h22 : I 54 22 = nI ct) (h23 : I 54 23 = nI e) (hn : r_note s ty ct e = some s')
    (hQ : ∀ I' : aj_I, (∀ a, a < 54 ∨ (55 ≤ a ∧ a ≤ 61) ∨ 67 ≤ a → I' a = I a) → (∀ j, j ≤ 10 ∨ 16 ≤ j → I' 54 j = I 54 j) → fdM I' s' → Q none Z I' G) : aj_T (d + 2) mc ms 46 [.ref 54, .int (nI (ps_p s))] Z I G Q := by
  have e5 := hM.1
  have lvE : ∀ j : Nat, j < 2 ^ 31 → (I 54 8 = nI j ↔ ps_lv s = j) := fun j hj => by rw [e5]; exact nI_eq (by omega) hj
  have l0 : I 54 8 = 0 ↔ ps_lv s = 0 := lvE 0 (by decide)
  have l1 : I 54 8 = 1 ↔ ps_lv s = 1 := lvE 1 (by decide)
  have l2 : I 54 8 = 2 ↔ ps_lv s = 2 := lvE 2 (by decide)
  have l3 : I 54 8 = 3 ↔ ps_lv s = 3 := lvE 3 (by decide)
  have hMT := hM.2.2
  have h15 := hMT.2.2.2.1
  have hfd := hB.1
  have pr : 1 ≤ ps_fd s → I 54 15 - 1 = nI (ps_fd s - 1) := fun h => by rw [h15, show (1 : Int32) = nI 1 from rfl, pk_sub h]
  have noch : r_note s ty ct e = some s → Q none Z I G := fun h => by
    have : s' = s := Option.some.inj (hn.symm.trans h)
    subst this
    exact hQ I (fun _ _ => rfl) (fun _ _ => rfl) hM
  have sub : ∀ s2, r_note s ty ct e = some s2 → s' = s2 := fun s2 h => Option.some.inj (hn.symm.trans h)
  have ng : (-1 : Int32) < 0 := by decide
  refine t_46 fun J hJ => ?_
  -- the tables' level
  have g165 : ∀ w3 : Option Value, (ps_lv s = 0 → ty ≠ 1836019574 ∧ ty ≠ 1835295092) → (ps_lv s = 1 → ty ≠ 1953653099) → (ps_lv s = 2 → ty ≠ 1937007212) → J 165 [some (.ref 54), some (.int (nI (ps_p s))), some (.int (I 54 15 - 1)), w3] [] Z I G (0, 0) := by
    intro w3 n0 n1 n2
    refine b_46_165 hJ (zk_54 hz) (fun z => noch ?_) (fun z => ?_)
    · have z : ps_lv s ≠ 3 := fun y => z (l3.mpr y)
      rcases (show ps_lv s = 0 ∨ ps_lv s = 1 ∨ ps_lv s = 2 by omega) with q | q | q
      · unfold r_note
        rw [if_pos q, if_neg (n0 q).1, if_neg (n0 q).2]
      · unfold r_note
        rw [if_neg (by omega), if_pos q, if_neg (n1 q)]
      · unfold r_note
        rw [if_neg (by omega), if_neg (by omega), if_pos q, if_neg (n2 q)]
    · have z := l3.mp z
      have hf1 := hB.2.1 (by omega)
      rw [h21, pr hf1]
      refine M_tableOf (fun ht => b_46_180 hJ (fun _ => noch (r_note_3n (by omega) (by omega) (by omega) ht)) (zk_54 hz) (fun y => absurd ng y)) (fun k w ht => ?_)
      have hk := (r_tab_b ht).1
      have hty := (r_tab_b ht).2
      have hnn : ps_tb s (ps_fd s - 1) k = none := by
        cases q : ps_tb s (ps_fd s - 1) k with
        | none => rfl
        | some x =>
          have := r_note_3f (ct := ct) (e := e) (s := s) (by omega) (by omega) (by omega) ht (by rw [q]; exact fun y => (by cases y))
          rw [hn] at this; cases this
      have hs' := sub _ (r_note_3s (by omega) (by omega) (by omega) ht hnn)
      subst hs'
      refine b_46_180 hJ (fun y => absurd y (nI_pos (by omega))) (zk_54 hz) (fun _ => ?_)
      rw [h21, show (4 : Int32) * nI (ps_fd s - 1) = nI (4 * (ps_fd s - 1)) from pk_mul 4 _]
      refine M_tableOf (fun h => absurd (h.symm.trans ht) (fun y => (by cases y))) (fun k' w' ht' => ?_)
      rw [ht] at ht'
      cases ht'
      have ei : (nI (4 * (ps_fd s - 1)) + nI k).toNatClampNeg = 4 * (ps_fd s - 1) + k := by rw [nI_add]; exact nI_clamp (by omega)
      have ej : (nI (ps_fd s - 1)).toNatClampNeg = ps_fd s - 1 := nI_clamp (by omega)
      have vi : vp_in (nI (4 * (ps_fd s - 1)) + nI k) 12 := by rw [nI_add]; exact vp_in_nI (by omega) (by decide)
      have vj : vp_in (nI (ps_fd s - 1)) 3 := vp_in_nI (by omega) (by decide)
      have fin : ∀ v : Int32, (k = 3 → v = if w then 1 else 0) → (k ≠ 3 → ∀ x, ps_tb s (ps_fd s - 1) 3 = some x → v = if ps_wd s (ps_fd s - 1) then 1 else 0) → Q none Z (aj_u2 (aj_u2 (aj_u2 (aj_u2 I 63 (4 * (ps_fd s - 1) + k) (nI (ps_p s))) 64 (4 * (ps_fd s - 1) + k) (nI ct)) 65 (4 * (ps_fd s - 1) + k) (nI e)) 66 (ps_fd s - 1) v) G := by
        intro v v1 v2
        have u : ∀ a, a ≠ 63 → a ≠ 64 → a ≠ 65 → a ≠ 66 → (aj_u2 (aj_u2 (aj_u2 (aj_u2 I 63 (4 * (ps_fd s - 1) + k) (nI (ps_p s))) 64 (4 * (ps_fd s - 1) + k) (nI ct)) 65 (4 * (ps_fd s - 1) + k) (nI e)) 66 (ps_fd s - 1) v) a = I a := fun a q1 q2 q3 q4 => by rw [aj_u2_ne q4, aj_u2_ne q3, aj_u2_ne q2, aj_u2_ne q1]
        refine hQ _ (fun a ha => u a (by omega) (by omega) (by omega) (by omega)) (fun j _ => by rw [u 54 (by decide) (by decide) (by decide) (by decide)]) ⟨by rw [u 54 (by decide) (by decide) (by decide) (by decide)]; exact e5, by rw [u 60 (by decide) (by decide) (by decide) (by decide), u 61 (by decide) (by decide) (by decide) (by decide)]; exact hM.2.1, fmT_tab hMT hk hf1 v1 v2⟩
      have eT : ∀ (i : Nat) (x y z : Int32), (aj_u2 (aj_u2 (aj_u2 I 63 i x) 64 i y) 65 i z) 54 = I 54 := fun i x y z => by rw [aj_u2_ne (by decide), aj_u2_ne (by decide), aj_u2_ne (by decide)]
      have eW : ∀ (i : Nat) (x y z : Int32), (aj_u2 (aj_u2 (aj_u2 I 63 i x) 64 i y) 65 i z) 66 = I 66 := fun i x y z => by rw [aj_u2_ne (by decide), aj_u2_ne (by decide), aj_u2_ne (by decide)]
      have c1 : ty = 1668232756 → k = 3 ∧ w = true := fun h => (r_ty_3 hk).mp (hty.symm.trans h)
      have c2 : ty = 1937007471 → k = 3 ∧ w = false := fun h => by
        rw [h] at ht
        have ht : some (3, false) = some (k, w) := ht
        cases ht
        exact ⟨rfl, rfl⟩
      have c3 : ¬ ty = 1668232756 → ¬ ty = 1937007471 → k ≠ 3 := fun h1 h2 h3 => by
        subst h3
        cases w
        · exact h2 hty
        · exact h1 hty
      -- wide, as it was
      have keep : ∀ v : Int32, (∀ c : Bool, I 66 (ps_fd s - 1) = (if c then 1 else 0) → v = if c then 1 else 0) → k ≠ 3 → ∀ x, ps_tb s (ps_fd s - 1) 3 = some x → v = if ps_wd s (ps_fd s - 1) then 1 else 0 := fun v hv _ x hx => hv _ ((((hMT.2.2.2.2 (ps_fd s - 1) (by omega)).2 3 (by decide)).2 x hx).2.2 rfl)
      refine b_46_193 hJ (zk_54 hz) (zr_54_17 hz) (zk_63 hz) vi (zr_54_18 hz) (zk_64 hz) vi (zr_54_19 hz) (zk_65 hz) vi (zr_54_20 hz) (zk_66 hz) (fun _ => vj) (fun y => ?_) (fun _ _ => vj) (fun y1 y2 => ?_) (fun _ _ => vj) (fun _ _ _ => vj) (fun y1 y2 y3 => ?_) (fun _ _ _ => vj) (fun y1 y2 y3 => ?_)
      · rw [eT, h21] at y
        rw [ei, ej, aj_u2_n1 (show 54 ≠ 63 by decide), aj_u2_n1 (show 54 ≠ 64 by decide), aj_u2_n1 (show 54 ≠ 63 by decide), h22, h23]
        exact fin _ (fun _ => by rw [(c1 y).2]; rfl) (fun x => absurd (c1 y).1 x)
      · rw [eT, h21] at y2
        rw [ei, ej, aj_u2_n1 (show 54 ≠ 63 by decide), aj_u2_n1 (show 54 ≠ 64 by decide), aj_u2_n1 (show 54 ≠ 63 by decide), h22, h23]
        exact fin _ (fun _ => by rw [(c2 y2).2]; rfl) (fun x => absurd (c2 y2).1 x)
      · rw [eT, h21] at y1 y2
        rw [eW, ej] at y3
        rw [ei, ej, aj_u2_n1 (show 54 ≠ 63 by decide), aj_u2_n1 (show 54 ≠ 64 by decide), aj_u2_n1 (show 54 ≠ 63 by decide), h22, h23]
        refine fin _ (fun x => absurd x (c3 y1 y2)) (keep _ (fun c hc => ?_))
        rw [y3] at hc
        cases c
        · rfl
        · exact absurd hc (by decide)
      · rw [eT, h21] at y1 y2
        rw [eW, ej] at y3
        rw [ei, ej, aj_u2_n1 (show 54 ≠ 63 by decide), aj_u2_n1 (show 54 ≠ 64 by decide), aj_u2_n1 (show 54 ≠ 63 by decide), h22, h23]
        refine fin _ (fun x => absurd x (c3 y1 y2)) (keep _ (fun c hc => ?_))
        cases c
        · exact absurd hc y3
        · rfl
  -- a track's level
  have g138 : ∀ w3 : Option Value, (ps_lv s = 0 → ty ≠ 1836019574 ∧ ty ≠ 1835295092) → (ps_lv s = 1 → ty ≠ 1953653099) → J 138 [some (.ref 54), some (.int (nI (ps_p s))), some (.int (I 54 15 - 1)), w3] [] Z I G (0, 0) := by
    intro w3 n0 n1
    refine b_46_138 hJ (zk_54 hz) (fun z => g165 w3 n0 n1 (fun y => absurd (l2.mpr y) z)) (fun z y => g165 w3 n0 n1 (fun _ => by rw [← h21]; exact y)) (zr_54_16 hz) (zk_62 hz) (fun z y => ?_) (fun z y => ?_)
    · have hf1 := hB.2.1 (by have := l2.mp z; omega)
      rw [pr hf1]; exact vp_in_nI (by omega) (by decide)
    · have z := l2.mp z
      have hf1 := hB.2.1 (by omega)
      rw [h21] at y
      rw [pr hf1, nI_clamp (by omega)]
      have hr : r_note s ty ct e = if ps_sb s (ps_fd s - 1) = none then some (s.1, s.2.1, s.2.2.1, s.2.2.2.1, ps_fd s, ps_p s, va_up (ps_sb s) (ps_fd s - 1) (some (ps_p s)), ps_tb s, ps_wd s) else none := by
        unfold r_note
        rw [if_neg (by omega), if_neg (by omega), if_pos z, if_pos y]
      by_cases hsb : ps_sb s (ps_fd s - 1) = none
      · rw [if_pos hsb] at hr
        have hs' := sub _ hr
        subst hs'
        have u : ∀ a, a ≠ 62 → aj_u2 I 62 (ps_fd s - 1) (nI (ps_p s)) a = I a := fun a ha => aj_u2_ne ha
        obtain ⟨a1, a2, a3, a4, a5⟩ := hMT
        refine hQ _ (fun a ha => u a (by omega)) (fun j _ => by rw [u 54 (by decide)]) ⟨by rw [u 54 (by decide)]; exact e5, by rw [u 60 (by decide), u 61 (by decide)]; exact hM.2.1, ?_⟩
        unfold fmT
        rw [u 54 (by decide), u 63 (by decide), u 64 (by decide), u 65 (by decide), u 66 (by decide), aj_u2_eq]
        refine ⟨a1, a2, a3, a4, fun t ht => ⟨?_, (a5 t ht).2⟩⟩
        show va_up (I 62) (ps_fd s - 1) (nI (ps_p s)) t = oN (va_up (ps_sb s) (ps_fd s - 1) (some (ps_p s)) t)
        by_cases q : t = ps_fd s - 1
        · rw [q, aj_up_eq, aj_up_eq]; rfl
        · rw [aj_up_ne q, aj_up_ne q]; exact (a5 t ht).1
      · rw [if_neg hsb] at hr
        rw [hn] at hr; cases hr
  -- moov's level
  have g71 : ∀ w3 : Option Value, (ps_lv s = 0 → ty ≠ 1836019574 ∧ ty ≠ 1835295092) → J 71 [some (.ref 54), some (.int (nI (ps_p s))), some (.int (I 54 15 - 1)), w3] [] Z I G (0, 0) := by
    intro w3 n0
    have hlt : ps_lv s = 1 → ty = 1953653099 → ps_fd s < 3 := fun z y => by
      rcases Nat.lt_or_ge (ps_fd s) 3 with q | q
      · exact q
      · unfold r_note at hn
        rw [if_neg (by omega), if_pos z, if_pos y, if_neg (by omega)] at hn
        cases hn
    refine b_46_71 hJ (zk_54 hz) (fun z => g138 w3 n0 (fun y => absurd (l1.mpr y) z)) (fun z y => g138 w3 n0 (fun _ => by rw [← h21]; exact y)) (zr_54_16 hz) (zk_62 hz) (fun z y => ?_) (fun z y => ?_)
    · rw [h21] at y
      have := hlt (l1.mp z) y
      rw [h15]; exact vp_in_nI (by omega) (by decide)
    · have z := l1.mp z
      rw [h21] at y
      have hl3 := hlt z y
      have hr : r_note s ty ct e = some (s.1, s.2.1, s.2.2.1, s.2.2.2.1, ps_fd s + 1, ps_p s, va_up (ps_sb s) (ps_fd s) none, va_up (ps_tb s) (ps_fd s) (fun _ => none), ps_wd s) := by
        unfold r_note
        rw [if_neg (by omega), if_pos z, if_pos y, if_pos hl3]
      have hs' := sub _ hr
      subst hs'
      rw [h15, nI_clamp (by omega)]
      have key : ∀ (m k : Nat) (w1 w2 : Option Value) (I1 : aj_I), m + k = 4 → (∀ a, a ≠ 62 → a ≠ 63 → I1 a = I a) → I1 62 = va_up (I 62) (ps_fd s) (-1) → (∀ i, i < 4 * ps_fd s → I1 63 i = I 63 i) → (∀ j, j < k → I1 63 (4 * ps_fd s + j) = -1) → J 100 [some (.ref 54), w1, w2, some (.int (nI k))] [] Z I1 G (0, 0) := by
        intro m
        induction m with
        | zero =>
          intro k w1 w2 I1 hk hfr h62 hlo hhi
          have hst : (4 : Int32) ≤ nI k := nI_le (a := 4) (by omega) (by omega)
          refine b_46_100 hJ (zk_54 hz) (fun _ => ?_) (zr_54_17 hz) (zk_63 hz) (fun x => absurd hst x) (fun x => absurd hst x)
          have u : ∀ a, a ≠ 54 → aj_u2 I1 54 15 (I1 54 15 + 1) a = I1 a := fun a ha => aj_u2_ne ha
          have u5 : ∀ j, j ≠ 15 → aj_u2 I1 54 15 (I1 54 15 + 1) 54 j = I 54 j := fun j hj => by rw [aj_u2_n2 hj, hfr 54 (by decide) (by decide)]
          obtain ⟨a1, a2, a3, a4, a5⟩ := hMT
          refine hQ _ (fun a ha => by rw [u a (by omega)]; exact hfr a (by omega) (by omega)) (fun j hj => u5 j (by omega)) ⟨by rw [u5 8 (by decide)]; exact e5, by rw [u 60 (by decide), u 61 (by decide), hfr 60 (by decide) (by decide), hfr 61 (by decide) (by decide)]; exact hM.2.1, by rw [u5 11 (by decide)]; exact a1, by rw [u5 12 (by decide)]; exact a2, by rw [u5 13 (by decide), u5 14 (by decide)]; exact a3, ?_, fun t ht => ?_⟩
          · rw [aj_u2_at, hfr 54 (by decide) (by decide), h15, nI_1]
          · have ht : t < ps_fd s + 1 := ht
            rw [u 62 (by decide), u 63 (by decide), u 64 (by decide), u 65 (by decide), u 66 (by decide), h62, hfr 64 (by decide) (by decide), hfr 65 (by decide) (by decide), hfr 66 (by decide) (by decide)]
            show va_up (I 62) (ps_fd s) (-1) t = oN (va_up (ps_sb s) (ps_fd s) none t) ∧ ∀ j, j < 4 → I1 63 (4 * t + j) = oN ((va_up (ps_tb s) (ps_fd s) (fun _ => none) t j).map (fun x => x.1)) ∧ ∀ x, va_up (ps_tb s) (ps_fd s) (fun _ => none) t j = some x → I 64 (4 * t + j) = nI x.2.1 ∧ I 65 (4 * t + j) = nI x.2.2 ∧ (j = 3 → I 66 t = if ps_wd s t then 1 else 0)
            by_cases q : t = ps_fd s
            · rw [q, aj_up_eq, aj_up_eq, aj_up_eq]
              exact ⟨rfl, fun j hj => ⟨hhi j (by omega), fun x hx => (by cases hx)⟩⟩
            · rw [aj_up_ne q, aj_up_ne q, aj_up_ne q]
              have h5 := a5 t (by omega)
              exact ⟨h5.1, fun j hj => ⟨by rw [hlo _ (by omega)]; exact (h5.2 j hj).1, (h5.2 j hj).2⟩⟩
        | succ m ih =>
          intro k w1 w2 I1 hk hfr h62 hlo hhi
          have e15 : I1 54 15 = nI (ps_fd s) := by rw [hfr 54 (by decide) (by decide)]; exact h15
          refine b_46_100 hJ (zk_54 hz) (fun x => absurd x (nI_ge (b := 4) (by omega) (by decide))) (zr_54_17 hz) (zk_63 hz) (fun _ => by rw [e15, sm_4]; exact vp_in_nI (by omega) (by decide)) (fun _ => ?_)
          rw [e15, sm_4, nI_clamp (by omega), nI_1]
          refine ih (k + 1) _ _ _ (by omega) (fun a a1 a2 => by rw [aj_u2_ne a2]; exact hfr a a1 a2) (by rw [aj_u2_ne (by decide)]; exact h62) (fun i hi => by rw [aj_u2_n2 (by omega)]; exact hlo i hi) (fun j hj => ?_)
          by_cases q : j = k
          · rw [q, aj_u2_at]
          · rw [aj_u2_n2 (by omega)]; exact hhi j (by omega)
      exact key 4 0 _ _ _ rfl (fun a a1 a2 => aj_u2_ne a1) aj_u2_eq (fun i _ => by rw [aj_u2_ne (by decide)]) (fun j hj => absurd hj (Nat.not_lt_zero _))
  -- the file's level
  have g31 : ∀ w3 : Option Value, (ps_lv s = 0 → ty ≠ 1836019574) → J 31 [some (.ref 54), some (.int (nI (ps_p s))), some (.int (I 54 15 - 1)), w3] [] Z I G (0, 0) := by
    intro w3 n0
    refine b_46_31 hJ (zk_54 hz) (fun z => g71 w3 (fun y => absurd (l0.mpr y) z)) (fun z y => g71 w3 (fun x => ⟨n0 x, by rw [← h21]; exact y⟩)) (fun z y => ?_)
    have z := l0.mp z
    rw [h21] at y
    have hm : ¬ (ps_m s).2.1 = true := fun x => by
      unfold r_note at hn
      rw [if_pos z, if_neg (n0 z), if_pos y, if_pos x] at hn
      cases hn
    have hr : r_note s ty ct e = some (s.1, s.2.1, s.2.2.1, ((ps_m s).1, true, ct, e), s.2.2.2.2) := by
      unfold r_note
      rw [if_pos z, if_neg (n0 z), if_pos y, if_neg hm]
    have hs' := sub _ hr
    subst hs'
    obtain ⟨a1, a2, a3, a4, a5⟩ := hMT
    rw [aj_u2_n2 (show 22 ≠ 12 by decide), aj_u2_n2 (show 23 ≠ 13 by decide), aj_u2_n2 (show 23 ≠ 12 by decide), h22, h23]
    have u : ∀ a, a ≠ 54 → (aj_u2 (aj_u2 (aj_u2 I 54 12 1) 54 13 (nI ct)) 54 14 (nI e)) a = I a := fun a ha => by rw [aj_u2_ne ha, aj_u2_ne ha, aj_u2_ne ha]
    have u5 : ∀ j, j ≠ 12 → j ≠ 13 → j ≠ 14 → (aj_u2 (aj_u2 (aj_u2 I 54 12 1) 54 13 (nI ct)) 54 14 (nI e)) 54 j = I 54 j := fun j j1 j2 j3 => by rw [aj_u2_n2 j3, aj_u2_n2 j2, aj_u2_n2 j1]
    refine hQ _ (fun a ha => u a (by omega)) (fun j hj => u5 j (by omega) (by omega) (by omega)) ⟨by rw [u5 8 (by decide) (by decide) (by decide)]; exact e5, by rw [u 60 (by decide), u 61 (by decide)]; exact hM.2.1, by rw [u5 11 (by decide) (by decide) (by decide)]; exact a1, ?_, fun _ => ⟨?_, aj_u2_at⟩, by rw [u5 15 (by decide) (by decide) (by decide)]; exact a4, ?_⟩
    · rw [aj_u2_n2 (by decide), aj_u2_n2 (by decide), aj_u2_at]; rfl
    · rw [aj_u2_n2 (by decide), aj_u2_at]
    · rw [u 62 (by decide), u 63 (by decide), u 64 (by decide), u 65 (by decide), u 66 (by decide)]; exact a5
  refine b_46_0 hJ (zk_54 hz) (fun z => g31 _ (fun y => absurd (l0.mpr y) z)) (fun z y => g31 _ (fun _ => by rw [← h21]; exact y)) (fun z y => ?_)
  have z := l0.mp z
  rw [h21] at y
  have hm : ¬ (ps_m s).1 = true := fun x => by
    unfold r_note at hn
    rw [if_pos z, if_pos y, if_pos x] at hn
    cases hn
  have hr : r_note s ty ct e = some (s.1, s.2.1, s.2.2.1, (true, (ps_m s).2), s.2.2.2.2) := by
    unfold r_note
    rw [if_pos z, if_pos y, if_neg hm]
  have hs' := sub _ hr
  subst hs'
  obtain ⟨a1, a2, a3, a4, a5⟩ := hMT
  have u : ∀ a, a ≠ 54 → aj_u2 I 54 11 1 a = I a := fun a ha => aj_u2_ne ha
  have u5 : ∀ j, j ≠ 11 → aj_u2 I 54 11 1 54 j = I 54 j := fun j hj => aj_u2_n2 hj
  refine hQ _ (fun a ha => u a (by omega)) (fun j hj => u5 j (by omega)) ⟨by rw [u5 8 (by decide)]; exact e5, by rw [u 60 (by decide), u 61 (by decide)]; exact hM.2.1, by rw [aj_u2_at]; rfl, by rw [u5 12 (by decide)]; exact a2, by rw [u5 13 (by decide), u5 14 (by decide)]; exact a3, by rw [u5 15 (by decide)]; exact a4, ?_⟩
  rw [u 62 (by decide), u 63 (by decide), u 64 (by decide), u 65 (by decide), u 66 (by decide)]; exact a5
end MC
