/-! the law's loop, over the contracts of write and read (still to come: the four hypotheses) -/
abbrev rl_t : Type := Nat × (Nat → Nat) × (Nat → Nat → Nat) × (Nat → Nat → Nat) × (Nat → Nat → Int64)
/-- the reader's current track is one of its three -/
def zCur (Z : aj_Z) : Prop := ∃ t, t < 3 ∧ Z.2.2 21 11 = .ref (25 + 9 * t)
def WC (wr : rl_t → Int32 → Int32 → Option (Nat × (Nat → Nat))) : Prop := ∀ (Z : aj_Z) (I : aj_I) (G : aj_G) (Q : aj_Q) (n : Nat) (c : Nat → Nat) (du si : Nat → Nat → Nat) (da : Nat → Nat → Int64) (len : Nat) (b : Nat → Nat) (pl x y : Int32), zAll Z → cS I G n c du si da len b pl →
  (∀ (I' : aj_I) (l' : Nat) (b' : Nat → Nat), (∀ a, 54 ≤ a → I' a = I a) → wr (n, c, du, si, da) x y = some (l', b') → cS I' G n c du si da l' b' pl → Q (some (.int (nI l'))) Z I' G) →
  (∀ I' : aj_I, (∀ a, 54 ≤ a → I' a = I a) → wr (n, c, du, si, da) x y = none → cS I' G n c du si da len b pl → Q (some (.int 0)) Z I' G) → aj_T 9 0 0 4 [.ref 2, .int x, .int y] Z I G Q
def WM (wr : rl_t → Int32 → Int32 → Option (Nat × (Nat → Nat))) : Prop := ∀ (Z : aj_Z) (I : aj_I) (G : aj_G) (Q : aj_Q) (n : Nat) (c : Nat → Nat) (du si : Nat → Nat → Nat) (da : Nat → Nat → Int64) (len : Nat) (b : Nat → Nat) (pl x y : Int32), zAll Z → mS I G n c du si da len b pl →
  (∀ (I' : aj_I) (l' : Nat) (b' : Nat → Nat), (∀ a, a < 54 → I' a = I a) → wr (n, c, du, si, da) x y = some (l', b') → mS I' G n c du si da l' b' pl → Q (some (.int (nI l'))) Z I' G) →
  (∀ I' : aj_I, (∀ a, a < 54 → I' a = I a) → wr (n, c, du, si, da) x y = none → mS I' G n c du si da len b pl → Q (some (.int 0)) Z I' G) → aj_T 9 0 0 40 [.ref 54, .int x, .int y] Z I G Q
def RC (rd : Nat → (Nat → Nat) → (Int32 × Int32) ⊕ rl_t) : Prop := ∀ (Z : aj_Z) (I : aj_I) (G : aj_G) (Q : aj_Q) (n : Nat) (c : Nat → Nat) (du si : Nat → Nat → Nat) (da : Nat → Nat → Int64) (len : Nat) (b : Nat → Nat) (pl : Int32), zAll Z → zCur Z → cS I G n c du si da len b pl →
  (∀ (Z' : aj_Z) (I' : aj_I) (G' : aj_G) (k p : Int32), zAll Z' → zCur Z' → (∀ a, 54 ≤ a → I' a = I a ∧ G' a = G a) → rd len b = .inl (k, p) → cS I' G' n c du si da len b p → Q (some (.int k)) Z' I' G') →
  (∀ (Z' : aj_Z) (I' : aj_I) (G' : aj_G) (n' : Nat) (c' : Nat → Nat) (du' si' : Nat → Nat → Nat) (da' : Nat → Nat → Int64), zAll Z' → zCur Z' → (∀ a, 54 ≤ a → I' a = I a ∧ G' a = G a) → rd len b = .inr (n', c', du', si', da') → cS I' G' n' c' du' si' da' len b (-1) → Q (some (.int 0)) Z' I' G') → aj_T 9 0 0 5 [.ref 2] Z I G Q
def RM (rd : Nat → (Nat → Nat) → (Int32 × Int32) ⊕ rl_t) : Prop := ∀ (Z : aj_Z) (I : aj_I) (G : aj_G) (Q : aj_Q) (n : Nat) (c : Nat → Nat) (du si : Nat → Nat → Nat) (da : Nat → Nat → Int64) (len : Nat) (b : Nat → Nat) (pl : Int32), zAll Z → mS I G n c du si da len b pl →
  (∀ (I' : aj_I) (G' : aj_G) (k p : Int32), (∀ a, a < 54 → I' a = I a ∧ G' a = G a) → rd len b = .inl (k, p) → mS I' G' n c du si da len b p → Q (some (.int k)) Z I' G') →
  (∀ (I' : aj_I) (G' : aj_G) (n' : Nat) (c' : Nat → Nat) (du' si' : Nat → Nat → Nat) (da' : Nat → Nat → Int64), (∀ a, a < 54 → I' a = I a ∧ G' a = G a) → rd len b = .inr (n', c', du', si', da') → mS I' G' n' c' du' si' da' len b (-1) → Q (some (.int 0)) Z I' G') → aj_T 9 0 0 67 [.ref 54] Z I G Q
theorem mS.same {I I' : aj_I} {G G' : aj_G} {n : Nat} {c : Nat → Nat} {du si : Nat → Nat → Nat} {da : Nat → Nat → Int64} {len : Nat} {b : Nat → Nat} {pl : Int32} (h : mS I G n c du si da len b pl) (hI : ∀ a, 54 ≤ a → I' a = I a) (hG : ∀ a, 54 ≤ a → G' a = G a) : mS I' G' n c du si da len b pl := by
  unfold mS mR mF at h ⊢
  rw [hI 54 (by omega), hI 55 (by omega), hI 56 (by omega), hI 57 (by omega), hI 59 (by omega), hG 58 (by omega)]
  exact h
theorem cS.same {I I' : aj_I} {G G' : aj_G} {n : Nat} {c : Nat → Nat} {du si : Nat → Nat → Nat} {da : Nat → Nat → Int64} {len : Nat} {b : Nat → Nat} {pl : Int32} (h : cS I G n c du si da len b pl) (hI : ∀ a, a < 54 → I' a = I a) (hG : ∀ a, a < 54 → G' a = G a) : cS I' G' n c du si da len b pl :=
  ⟨h.1.same (fun a _ _ => hI a (by omega)) (fun a _ _ => hG a (by omega)), h.2.1.same (hI 17 (by omega)) (hI 18 (by omega)), by rw [hI 20 (by omega)]; exact h.2.2⟩
def lInv (Z : aj_Z) (I : aj_I) (G : aj_G) : Prop := zAll Z ∧ zCur Z ∧ ∃ (n : Nat) (c : Nat → Nat) (du si : Nat → Nat → Nat) (da : Nat → Nat → Int64) (len : Nat) (b : Nat → Nat) (pl : Int32), cS I G n c du si da len b pl ∧ mS I G n c du si da len b pl
set_option maxHeartbeats 4000000 in
theorem law_loop {mc ms nX : Nat} {xs : Nat → Int32} {Q : aj_Q} {J : aj_J} {wr : rl_t → Int32 → Int32 → Option (Nat × (Nat → Nat))} {rd : Nat → (Nat → Nat) → (Int32 × Int32) ⊕ rl_t} (hWC : WC wr) (hWM : WM wr) (hRC : RC rd) (hRM : RM rd)
    (hJ : aj_Cl 11 code ret false mc ms (some (nX, xs)) (aj_T 9) Q J) (hn : nX ≤ 3072) (hQ : ∀ Z I G, Q (some (.int 1)) Z I G) (C : Nat × Nat) : ∀ (m i : Nat) (Z : aj_Z) (I : aj_I) (G : aj_G), nX + 6 ≤ m + i → i ≤ nX + 6 → lInv Z I G → J 18 [some (.ref 1), some (.ref 2), some (.ref 54), some (.int (nI i))] [] Z I G C := by
  have hX : (some (nX, xs) : Option (Nat × (Nat → Int32))) = some (nX, xs) := rfl
  have hE : ∀ i, i ≤ nX + 6 → ((Int32.ofNat nX - 6 < nI i) ↔ ¬ i + 6 ≤ nX) := by
    intro i hi
    rw [Int32.lt_iff_toInt_lt, show Int32.ofNat nX - 6 = nI nX - nI 6 from rfl, pk_sub_toInt (by omega) (by omega), nI_toInt (by omega)]
    omega
  intro m
  induction m with
  | zero =>
    intro i Z I G h1 h2 hI
    have hx : Int32.ofNat nX - 6 < nI i := (hE i h2).mpr (by omega)
    exact b_L_18 (o2 := 54) hJ hX (fun _ => hQ _ _ _) (fun h => absurd hx h) (zk_2 hI.1) (fun h => absurd hx h) (fun h => absurd hx h) (fun h => absurd hx h) (fun h => absurd hx h) (fun h => absurd hx h) (fun h => absurd hx h) (fun h => absurd hx h) (fun h => absurd hx h) (fun h => absurd hx h) (fun h => absurd hx h) (fun h => absurd hx h) (fun h => absurd hx h) (fun h => absurd hx h) (fun h => absurd hx h) (fun h => absurd hx h) (fun h => absurd hx h) (fun h => absurd hx h) (fun h => absurd hx h) (fun h => absurd hx h) (fun h => absurd hx h) (fun h => absurd hx h) (fun h => absurd hx h) (fun h => absurd hx h) (fun h => absurd hx h) (fun h => absurd hx h) (fun h => absurd hx h) (fun h => absurd hx h) (fun h => absurd hx h) (fun h => absurd hx h) (fun h => absurd hx h) (fun h => absurd hx h) (fun h => absurd hx h) (fun h => absurd hx h) (fun h => absurd hx h) (fun h => absurd hx h) (fun h => absurd hx h) (fun h => absurd hx h) (fun h => absurd hx h)
  | succ m ih =>
    intro i Z I G h1 h2 hI
    by_cases hi6 : i + 6 ≤ nX
    · obtain ⟨hz, hq, n, c, du, si, da, len, b, pl, hc, hm⟩ := hI
      have hnx : ¬ Int32.ofNat nX - 6 < nI i := fun h => (hE i h2).mp h hi6
      have go : ∀ (Z : aj_Z) (I : aj_I) (G : aj_G), lInv Z I G → J 18 [some (.ref 1), some (.ref 2), some (.ref 54), some (.int (nI i + 6))] [] Z I G C := by
        intro Z I G h
        rw [show nI i + 6 = nI (i + 6) from nI_add i 6]
        exact ih (i + 6) Z I G (by omega) (by omega) h
      have hv0 : vp_in (nI i) nX := vp_in_nI (by omega) (by omega)
      have hv1 : vp_in (nI i + 1) nX := by rw [show nI i + 1 = nI (i + 1) from nI_add i 1]; exact vp_in_nI (by omega) (by omega)
      have hv2 : vp_in (nI i + 2) nX := by rw [show nI i + 2 = nI (i + 2) from nI_add i 2]; exact vp_in_nI (by omega) (by omega)
      have hv3 : vp_in (nI i + 3) nX := by rw [show nI i + 3 = nI (i + 3) from nI_add i 3]; exact vp_in_nI (by omega) (by omega)
      have hv4 : vp_in (nI i + 4) nX := by rw [show nI i + 4 = nI (i + 4) from nI_add i 4]; exact vp_in_nI (by omega) (by omega)
      have hv5 : vp_in (nI i + 5) nX := by rw [show nI i + 5 = nI (i + 5) from nI_add i 5]; exact vp_in_nI (by omega) (by omega)
      have h54 := zk_54 hz
      have inj : ∀ {a b : Nat}, a < 2 ^ 31 → b < 2 ^ 31 → nI a = nI b → a = b := fun ha hb h => (nI_eq ha hb).mp h
      have hn3 := hc.1.2.1
      have same : lInv Z I G := ⟨hz, hq, n, c, du, si, da, len, b, pl, hc, hm⟩
      refine b_L_18 hJ hX (fun h => absurd h hnx) (fun _ => hv0) (zk_2 hz) (fun _ _ => ?h0) (fun _ _ _ => hv1) (fun _ _ _ => hv2) (fun _ _ _ => hv3) (fun _ _ _ => hv4) (fun _ _ _ => hv5) (fun _ _ _ => ?h1) (fun _ _ _ _ => ?h2) (fun _ _ _ _ _ => hv1) (fun _ _ _ _ _ => hv2) (fun _ _ _ _ _ => ?h3) (fun _ _ _ _ _ _ => ?h4) (fun _ _ _ _ _ _ _ => ?h5) (fun _ _ _ _ _ _ _ _ => ?h6) (fun _ _ _ _ _ _ _ _ _ => hv1) (fun _ _ _ _ _ _ _ _ _ => ?h7) (fun _ _ _ _ _ _ _ _ _ _ => hv1) (fun _ _ _ _ _ _ _ _ _ _ => hv2) (fun _ _ _ _ _ _ _ _ _ _ => ?h8) (fun _ _ _ _ _ _ _ _ _ _ _ => hv1) (fun _ _ _ _ _ _ _ _ _ _ _ => hv2) (fun _ _ _ _ _ _ _ _ _ _ _ => ?h9) (fun _ _ _ _ _ _ _ _ _ _ _ _ => hv1) (fun _ _ _ _ _ _ _ _ _ _ _ _ => hv2) (fun _ _ _ _ _ _ _ _ _ _ _ _ => ?h10) (fun _ _ _ _ _ _ _ _ _ _ _ _ _ => ?h11) (fun _ _ _ _ _ _ _ _ _ _ _ _ _ _ => hv1) (fun _ _ _ _ _ _ _ _ _ _ _ _ _ _ => ?h12) (fun _ _ _ _ _ _ _ _ _ _ _ _ _ _ _ => hv1) (fun _ _ _ _ _ _ _ _ _ _ _ _ _ _ _ => hv2) (fun _ _ _ _ _ _ _ _ _ _ _ _ _ _ _ => ?h13) (fun _ _ _ _ _ _ _ _ _ _ _ _ _ _ _ _ => hv1) (fun _ _ _ _ _ _ _ _ _ _ _ _ _ _ _ _ => hv2) (fun _ _ _ _ _ _ _ _ _ _ _ _ _ _ _ _ => hv3) (fun _ _ _ _ _ _ _ _ _ _ _ _ _ _ _ _ => ?h14) (fun _ _ _ _ _ _ _ _ _ _ _ _ _ _ _ _ _ => hv1) (fun _ _ _ _ _ _ _ _ _ _ _ _ _ _ _ _ _ => ?h15) (fun _ _ _ _ _ _ _ _ _ _ _ _ _ _ _ _ _ => go Z I G same)
      case h0 =>
        refine C_track (d := 6) hz hc (fun I' hlt hf hc' => ?_) (fun h3 => ?_)
        · refine b_L_116 hJ hX h54 (M_track (d := 8) hz (hm.same hf (fun _ _ => rfl)) (fun I2 _ hf2 hm2 => b_L_120 hJ hX (fun _ => go Z I2 G ⟨hz, hq, _, _, _, _, _, _, _, _, hc'.same hf2 (fun _ _ => rfl), hm2⟩) (fun h => absurd rfl h)) (fun h => absurd h (by omega)))
        · exact b_L_116 hJ hX h54 (M_track (d := 8) hz hm (fun I2 hlt => absurd hlt (by omega)) (fun _ => b_L_120 hJ hX (fun _ => go Z I G same) (fun h => absurd rfl h)))
      case h1 =>
        refine C_sample (d := 6) hz hc (fun t x k I' G' a1 a2 a3 a4 a5 a6 a7 hf hc' => ?_) (fun hno => ?_)
        · refine b_L_164 hJ hX hv1 hv2 hv3 hv4 hv5 h54 (M_sample (d := 7) hz (hm.same (fun a ha => (hf a ha).1) (fun a ha => (hf a ha).2)) (fun t' x' k' I2 G2 b1 b2 b3 b4 b5 b6 b7 hf2 hm2 => ?_) (fun hno => absurd ⟨t, x, k, a1, a2, a3, a4, a5, a6, a7⟩ hno))
          have e1 : t' = t := inj (by omega) (by omega) (b2.symm.trans a2)
          have e2 : x' = x := inj b4 a4 (b5.symm.trans a5)
          have e3 : k' = k := inj (by omega) (by omega) (b7.symm.trans a7)
          subst e1; subst e2; subst e3
          exact b_L_203 hJ hX (fun _ => go Z I2 G2 ⟨hz, hq, _, _, _, _, _, _, _, _, hc'.same (fun a ha => (hf2 a ha).1) (fun a ha => (hf2 a ha).2), hm2⟩) (fun h => absurd rfl h)
        · exact b_L_164 hJ hX hv1 hv2 hv3 hv4 hv5 h54 (M_sample (d := 7) hz hm (fun t' x' k' I2 G2 b1 b2 b3 b4 b5 b6 b7 hf2 hm2 => absurd ⟨t', x', k', b1, b2, b3, b4, b5, b6, b7⟩ hno) (fun _ => b_L_203 hJ hX (fun _ => go Z I G same) (fun h => absurd rfl h)))
      case h2 =>
        exact C_clear (d := 7) hz hc (fun I' hf hc' => b_L_212 hJ hX h54 (M_clear (d := 8) hz (hm.same hf (fun _ _ => rfl)) (fun I2 hf2 hm2 => b_L_216 hJ hX (fun _ => go Z I2 G ⟨hz, hq, _, _, _, _, _, _, _, _, hc'.same hf2 (fun _ _ => rfl), hm2⟩) (fun h => absurd rfl h))))
      case h3 =>
        refine hWC Z I G _ n c du si da len b pl _ _ hz hc (fun I' l' b' hf hw hc' => ?_) (fun I' hf hw hc' => ?_)
        · refine b_L_235 hJ hX hv1 hv2 h54 (hWM Z I' G _ n c du si da len b pl _ _ hz (hm.same hf (fun _ _ => rfl)) (fun I2 l2 b2 hf2 hw2 hm2 => ?_) (fun I2 hf2 hw2 => absurd (hw.symm.trans hw2) (fun h => by cases h)))
          have e := Option.some.inj (hw.symm.trans hw2)
          cases e
          exact b_L_249 hJ hX (fun _ => go Z I2 G ⟨hz, hq, _, _, _, _, _, _, _, _, hc'.same hf2 (fun _ _ => rfl), hm2⟩) (fun h => absurd rfl h)
        · exact b_L_235 hJ hX hv1 hv2 h54 (hWM Z I' G _ n c du si da len b pl _ _ hz (hm.same hf (fun _ _ => rfl)) (fun I2 l2 b2 hf2 hw2 => absurd (hw.symm.trans hw2) (fun h => by cases h)) (fun I2 hf2 hw2 hm2 => b_L_249 hJ hX (fun _ => go Z I2 G ⟨hz, hq, _, _, _, _, _, _, _, _, hc'.same hf2 (fun _ _ => rfl), hm2⟩) (fun h => absurd rfl h)))
      case h4 =>
        refine hRC Z I G _ n c du si da len b pl hz hq hc (fun Z' I' G' k p hz' hq' hf hr hc' => ?_) (fun Z' I' G' n' c' du' si' da' hz' hq' hf hr hc' => ?_)
        · refine b_L_258 hJ hX (zk_54 hz') (hRM Z' I' G' _ n c du si da len b pl hz' (hm.same (fun a ha => (hf a ha).1) (fun a ha => (hf a ha).2)) (fun I2 G2 k2 p2 hf2 hr2 hm2 => ?_) (fun I2 G2 n2 c2 du2 si2 da2 hf2 hr2 => absurd (hr.symm.trans hr2) (fun h => by cases h)))
          cases (hr.symm.trans hr2)
          exact b_L_262 hJ hX (fun _ => go Z' I2 G2 ⟨hz', hq', _, _, _, _, _, _, _, _, hc'.same (fun a ha => (hf2 a ha).1) (fun a ha => (hf2 a ha).2), hm2⟩) (fun h => absurd rfl h)
        · refine b_L_258 hJ hX (zk_54 hz') (hRM Z' I' G' _ n c du si da len b pl hz' (hm.same (fun a ha => (hf a ha).1) (fun a ha => (hf a ha).2)) (fun I2 G2 k2 p2 hf2 hr2 => absurd (hr.symm.trans hr2) (fun h => by cases h)) (fun I2 G2 n2 c2 du2 si2 da2 hf2 hr2 hm2 => ?_))
          cases (hr.symm.trans hr2)
          exact b_L_262 hJ hX (fun _ => go Z' I2 G2 ⟨hz', hq', _, _, _, _, _, _, _, _, hc'.same (fun a ha => (hf2 a ha).1) (fun a ha => (hf2 a ha).2), hm2⟩) (fun h => absurd rfl h)
      case h5 => exact C_place (d := 7) hz hc (b_L_271 hJ hX h54 (M_place (d := 8) hz hm (b_L_275 hJ hX (fun _ => go Z I G same) (fun h => absurd rfl h))))
      case h6 => exact C_tracks (d := 7) hz hc (b_L_284 hJ hX h54 (M_tracks (d := 8) hz hm (b_L_288 hJ hX (fun _ => go Z I G same) (fun h => absurd rfl h))))
      case h7 =>
        refine C_samples (d := 6) hz hc (fun t a1 a2 => b_L_302 hJ hX hv1 h54 (M_samples (d := 7) hz hm (fun t' b1 b2 => ?_) (fun hno => absurd a2 (hno t a1)))) (fun hno => b_L_302 hJ hX hv1 h54 (M_samples (d := 7) hz hm (fun t' b1 b2 => absurd b2 (hno t' b1)) (fun _ => b_L_311 hJ hX (fun _ => go Z I G same) (fun h => absurd rfl h))))
        have e1 : t' = t := inj (by omega) (by omega) (b2.symm.trans a2)
        subst e1
        exact b_L_311 hJ hX (fun _ => go Z I G same) (fun h => absurd rfl h)
      case h8 =>
        refine C_size (d := 6) hz hc (fun t j a1 a2 a3 a4 => b_L_330 hJ hX hv1 hv2 h54 (M_size (d := 6) hz hm (fun t' j' b1 b2 b3 b4 => ?_) (fun hno => absurd ⟨t, j, a1, a2, a3, a4⟩ hno))) (fun hno => b_L_330 hJ hX hv1 hv2 h54 (M_size (d := 6) hz hm (fun t' j' b1 b2 b3 b4 => absurd ⟨t', j', b1, b2, b3, b4⟩ hno) (fun _ => b_L_344 hJ hX (fun _ => go Z I G same) (fun h => absurd rfl h))))
        have e1 : t' = t := inj (by omega) (by omega) (b2.symm.trans a2)
        subst e1
        have h16 := (hc.1.2.2 t' a1).2.1
        have e2 : j' = j := inj (by omega) (by omega) (b4.symm.trans a4)
        subst e2
        exact b_L_344 hJ hX (fun _ => go Z I G same) (fun h => absurd rfl h)
      case h9 =>
        refine C_time (d := 6) hz hc (fun t j a1 a2 a3 a4 => b_L_363 hJ hX hv1 hv2 h54 (M_time (d := 7) hz hm (fun t' j' b1 b2 b3 b4 => ?_) (fun hno => absurd ⟨t, j, a1, a2, a3, a4⟩ hno))) (fun hno => b_L_363 hJ hX hv1 hv2 h54 (M_time (d := 7) hz hm (fun t' j' b1 b2 b3 b4 => absurd ⟨t', j', b1, b2, b3, b4⟩ hno) (fun _ => b_L_377 hJ hX (fun _ => go Z I G same) (fun h => absurd rfl h))))
        have e1 : t' = t := inj (by omega) (by omega) (b2.symm.trans a2)
        subst e1
        have h16 := (hc.1.2.2 t' a1).2.1
        have e2 : j' = j := inj (by omega) (by omega) (b4.symm.trans a4)
        subst e2
        exact b_L_377 hJ hX (fun _ => go Z I G same) (fun h => absurd rfl h)
      case h10 =>
        refine C_bytes (d := 6) hz hc (fun t j a1 a2 a3 a4 => b_L_397 hJ hX hv1 hv2 h54 (M_bytes (d := 6) hz hm (fun t' j' b1 b2 b3 b4 => ?_) (fun hno => absurd ⟨t, j, a1, a2, a3, a4⟩ hno))) (fun hno => b_L_397 hJ hX hv1 hv2 h54 (M_bytes (d := 6) hz hm (fun t' j' b1 b2 b3 b4 => absurd ⟨t', j', b1, b2, b3, b4⟩ hno) (fun _ => b_L_411 hJ hX (fun _ => go Z I G same) (fun h => absurd rfl h))))
        have e1 : t' = t := inj (by omega) (by omega) (b2.symm.trans a2)
        subst e1
        have h16 := (hc.1.2.2 t' a1).2.1
        have e2 : j' = j := inj (by omega) (by omega) (b4.symm.trans a4)
        subst e2
        exact b_L_411 hJ hX (fun _ => go Z I G same) (fun h => absurd rfl h)
      case h11 => exact C_length (d := 7) hz hc (b_L_421 hJ hX h54 (M_length (d := 8) hz hm (b_L_425 hJ hX (fun _ => go Z I G same) (fun h => absurd rfl h))))
      case h12 =>
        have hl := hc.2.1.2.1
        refine C_at (d := 7) hz hc (fun t a1 a2 => b_L_439 hJ hX hv1 h54 (M_at (d := 7) hz hm (fun t' b1 b2 => ?_) (fun hno => absurd a2 (hno t a1)))) (fun hno => b_L_439 hJ hX hv1 h54 (M_at (d := 7) hz hm (fun t' b1 b2 => absurd b2 (hno t' b1)) (fun _ => b_L_448 hJ hX (fun _ => go Z I G same) (fun h => absurd rfl h))))
        have e1 : t' = t := inj (by omega) (by omega) (b2.symm.trans a2)
        subst e1
        exact b_L_448 hJ hX (fun _ => go Z I G same) (fun h => absurd rfl h)
      case h13 =>
        have hl := hc.2.1.2.1
        refine C_poke (d := 7) hz hc (fun t I' a1 a2 hf hc' => b_L_467 hJ hX hv1 hv2 h54 (M_poke (d := 7) hz (hm.same hf (fun _ _ => rfl)) (fun t' I2 b1 b2 hf2 hm2 => ?_) (fun hno => absurd a2 (hno t a1)))) (fun hno => b_L_467 hJ hX hv1 hv2 h54 (M_poke (d := 7) hz hm (fun t' I2 b1 b2 => absurd b2 (hno t' b1)) (fun _ => b_L_481 hJ hX (fun _ => go Z I G same) (fun h => absurd rfl h))))
        have e1 : t' = t := inj (by omega) (by omega) (b2.symm.trans a2)
        subst e1
        exact b_L_481 hJ hX (fun _ => go Z I2 G ⟨hz, hq, _, _, _, _, _, _, _, _, hc'.same hf2 (fun _ _ => rfl), hm2⟩) (fun h => absurd rfl h)
      case h14 =>
        refine C_append (d := 7) hz hc (fun k I' a1 a2 a3 a4 hf hc' => b_L_515 hJ hX hv1 hv2 hv3 h54 (M_append (d := 7) hz (hm.same hf (fun _ _ => rfl)) (fun k' I2 b1 b2 b3 b4 hf2 hm2 => ?_) (fun hno => absurd ⟨k, a1, a2, a3, a4⟩ hno))) (fun hno => b_L_515 hJ hX hv1 hv2 hv3 h54 (M_append (d := 7) hz hm (fun k' I2 b1 b2 b3 b4 => absurd ⟨k', b1, b2, b3, b4⟩ hno) (fun _ => b_L_544 hJ hX (fun _ => go Z I G same) (fun h => absurd rfl h))))
        have e1 : k' = k := inj (by omega) (by omega) (b1.symm.trans a1)
        subst e1
        exact b_L_544 hJ hX (fun _ => go Z I2 G ⟨hz, hq, _, _, _, _, _, _, _, _, hc'.same hf2 (fun _ _ => rfl), hm2⟩) (fun h => absurd rfl h)
      case h15 =>
        have hl := hc.2.1.2.1
        refine C_cut (d := 7) hz hc (fun t I' a1 a2 hf hc' => b_L_558 hJ hX hv1 h54 (M_cut (d := 8) hz (hm.same hf (fun _ _ => rfl)) (fun t' I2 b1 b2 hf2 hm2 => ?_) (fun hno => absurd a2 (hno t a1)))) (fun hno => b_L_558 hJ hX hv1 h54 (M_cut (d := 8) hz hm (fun t' I2 b1 b2 => absurd b2 (hno t' b1)) (fun _ => b_L_567 hJ hX (fun _ => go Z I G same) (fun h => absurd rfl h))))
        have e1 : t' = t := inj (by omega) (by omega) (b2.symm.trans a2)
        subst e1
        exact b_L_567 hJ hX (fun _ => go Z I2 G ⟨hz, hq, _, _, _, _, _, _, _, _, hc'.same hf2 (fun _ _ => rfl), hm2⟩) (fun h => absurd rfl h)
    · have hx : Int32.ofNat nX - 6 < nI i := (hE i h2).mpr hi6
      exact b_L_18 (o2 := 54) hJ hX (fun _ => hQ _ _ _) (fun h => absurd hx h) (zk_2 hI.1) (fun h => absurd hx h) (fun h => absurd hx h) (fun h => absurd hx h) (fun h => absurd hx h) (fun h => absurd hx h) (fun h => absurd hx h) (fun h => absurd hx h) (fun h => absurd hx h) (fun h => absurd hx h) (fun h => absurd hx h) (fun h => absurd hx h) (fun h => absurd hx h) (fun h => absurd hx h) (fun h => absurd hx h) (fun h => absurd hx h) (fun h => absurd hx h) (fun h => absurd hx h) (fun h => absurd hx h) (fun h => absurd hx h) (fun h => absurd hx h) (fun h => absurd hx h) (fun h => absurd hx h) (fun h => absurd hx h) (fun h => absurd hx h) (fun h => absurd hx h) (fun h => absurd hx h) (fun h => absurd hx h) (fun h => absurd hx h) (fun h => absurd hx h) (fun h => absurd hx h) (fun h => absurd hx h) (fun h => absurd hx h) (fun h => absurd hx h) (fun h => absurd hx h) (fun h => absurd hx h) (fun h => absurd hx h) (fun h => absurd hx h) (fun h => absurd hx h)
