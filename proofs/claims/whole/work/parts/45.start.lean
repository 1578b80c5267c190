/-! the law's entry on the machine -/
theorem aj_ws_tbl : ∀ w ∈ aj_ws, w ∈ lw_tbl := by
  intro w hw
  rcases List.mem_append.mp hw with h | h
  · exact aj_codes w h
  · rcases List.mem_append.mp h with h | h
    · exact aj_codes2 w h
    · exact (List.mem_filter.mp h).1
theorem aj_insts : aj_cl.all (fun r => decide (Cond.instantiable r.1 r.2.2 ∈ aj_wo)) = true := by decide +kernel
theorem aj_arrs : (List.range aj_nt).all (fun t => match aj_at t with
  | .object C => decide (Cond.arrayOver (.object C) ∈ lw_tbl)
  | ty => decide (Cond.arrayClass ty ∈ aj_wo)) = true := by decide +kernel
theorem aj_aos : aj_ao.all (fun C => decide (Cond.arrayOver (.object C) ∈ lw_tbl)) = true := by decide +kernel
theorem aj_stat : Cond.laysStatic aj_gc aj_gf "[I" ∈ lw_tbl ∧ Cond.initialized aj_gc ∈ lw_tbl := by decide +kernel
/-- each class's number and slots, each array class -/
theorem aj_known {s : State} {args : Array Value} (hts : ∀ w ∈ lw_tbl, w.before args s = true) : ∃ (D : va_G) (kA : Nat → ClassId), va_K D aj_cl (aj_tys kA) s := by
  have hws : ∀ w ∈ aj_ws, w.before args s = true := fun w h => hts w (aj_ws_tbl w h)
  have h1 : ∀ ci : Nat, ∃ p : ClassId × (Nat → Nat), ∀ q : vw_C, aj_cl[ci]? = some q → u_Kn s q.1 q.2.1 q.2.2 p.1 p.2 := by
    intro ci
    cases hc : aj_cl[ci]? with
    | none => exact ⟨(0, fun _ => 0), fun q h => by cases h⟩
    | some r =>
      obtain ⟨C, T, N⟩ := r
      have hi : Cond.instantiable C N ∈ aj_wo := by simpa using List.all_eq_true.mp aj_insts _ (List.mem_of_getElem? hc)
      obtain ⟨cC, iS, h⟩ := u_known (T := T) (N := N) hws (aj_cl_spec hc).1 (hws _ (aj_wo_ws hi))
      exact ⟨(cC, iS), fun q hq => by cases hq; exact h⟩
  have h2 : ∀ t : Nat, ∃ cA : ClassId, t < aj_nt → ArrOfT s cA (aj_at t) ∧ va_RA s cA (aj_at t) := by
    intro t
    by_cases ht : t < aj_nt
    · have h := List.all_eq_true.mp aj_arrs t (List.mem_range.mpr ht)
      generalize aj_at t = ty at h ⊢
      cases ty with
      | object C =>
        have hw : Cond.arrayOver (.object C) ∈ lw_tbl := by simpa using h
        obtain ⟨comp, c, k, e1, e2, e3, e4, e5⟩ := Cond.arrayOver_spec (hts _ hw)
        exact ⟨c, fun _ => ⟨fun n z => ⟨fun k h => (by cases h), k, e3, comp, e4⟩, k, comp, e3, e4, e1, e5⟩⟩
      | _ =>
        have hw := aj_wo_ws (by simpa using h)
        obtain ⟨cA, kA, comp, e1, e2, e3⟩ := Cond.arrayClass_spec (hws _ hw)
        exact ⟨cA, fun _ => ⟨fun n z => ⟨fun k h => (by cases h), kA, e2, comp, e3⟩, e1⟩⟩
    · exact ⟨0, fun h => absurd h ht⟩
  obtain ⟨f, hf⟩ := Classical.axiomOfChoice h1
  obtain ⟨kA, hk⟩ := Classical.axiomOfChoice h2
  refine ⟨(fun c => (f c).1, fun c => (f c).2), kA, fun ci q hq => hf ci q hq, fun k q hq => ?_⟩
  have hlt : k < aj_nt := by
    have := (List.getElem?_eq_some_iff.mp hq).1
    simpa [aj_tys] using this
  rw [aj_tys_at kA hlt] at hq
  cases hq
  exact hk k hlt
/-- the static table -/
theorem aj_static {s : State} {args : Array Value} (hts : ∀ w ∈ lw_tbl, w.before args s = true) (hgv : (Jvm.Cond.and given_1 narrow_1).before args s = true) : ∃ aS : Nat, va_Z aj_gc aj_gf "[I" (.ref aS) (fun q => s.heap.size ≤ q) s s.heap ∧ va_T .int aS aj_gn (fun j => .int (aj_gv j)) (fun q => s.heap.size ≤ q) s s.heap := by
  have hs := flat_of_before _ hgv
  have hA : ∀ a : Nat, a < s.heap.size → ¬ s.heap.size ≤ a := fun a h => by omega
  have harr : (Cond.arrayOf (.static aj_gc aj_gf "[I") .int).before args s = true := hs _ (by decide +kernel)
  have hlen := va_eqt (hs (Cond.eq (.length (.static aj_gc aj_gf "[I")) (.int 3)) (by decide +kernel))
  have h0 := va_eqt (hs (Cond.eq (.elem (.static aj_gc aj_gf "[I") (.int 0)) (.int 1836019574)) (by decide +kernel))
  have h1 := va_eqt (hs (Cond.eq (.elem (.static aj_gc aj_gf "[I") (.int 1)) (.int 1953653099)) (by decide +kernel))
  have h2 := va_eqt (hs (Cond.eq (.elem (.static aj_gc aj_gf "[I") (.int 2)) (.int 1937007212)) (by decide +kernel))
  obtain ⟨t, e1, e2⟩ := va_Tof (N := aj_gn) (f := fun j => .int (aj_gv j)) (by decide) harr hlen (fun j hj => by
    have hj3 : j < 3 := hj
    rcases (show j = 0 ∨ j = 1 ∨ j = 2 by omega) with rfl | rfl | rfl
    · exact h0
    · exact h1
    · exact h2) hA
  exact ⟨t, va_Zref (hts _ aj_stat.1) (hts _ aj_stat.2) e1 hA, e2⟩
set_option maxHeartbeats 4000000 in
/-- the law's walk in the abstract machine is its walk on the machine -/
theorem aj_start {p : Program} {e : Env} {s : State} {m : MethodId} {below : List Frame} {meth : Method} {c : Code} (l : Launch) {b L : Nat} {xs : Nat → Int32} (C0 : lw_At p s m meth c b L xs)
    (walk : ∀ J : aj_J, aj_Cl 11 code ret false 600000 7302250 (some (L, xs)) (aj_T 9) (fun r _ _ _ => r = some (.int 1)) J → J 0 [some (.ref 1), none, none, none] [] zs_0 is_0 aj_G0 (0, 0)) :
    W p l e room_1 s m #[Value.ref b] below meth c s.heap [] 0 0 (lw_Z below #[Value.ref b] s) (entryFrame m ([Value.ref b] : List Value).toArray 4) := by
  obtain ⟨hx, hb, hr, hml, hown, hts, hX, hbl, hlk, hgv⟩ := C0
  obtain ⟨D, kA, hK⟩ := aj_known hts
  obtain ⟨aS, hZ, hT⟩ := aj_static hts hgv
  have hkw : aj_kw D kA s.heap.size aS s s.heap := ⟨hK, fun w hw => va_Nw.of (by
      have := List.all_eq_true.mp aj_nws w hw
      unfold aj_isN at this
      split at this
      · rfl
      · rfl
      · cases this) (hts w (List.mem_filter.mp hw).1), fun C hC => va_AO.of (hts (Cond.arrayOver (.object C)) (by simpa using List.all_eq_true.mp aj_aos C hC)), hZ, hT⟩
  have F : aj_fx D kA s.heap.size aS p s m #[Value.ref b] c 4 11 code := ⟨hx, hb, hml, hown, fun w h => hts w (aj_ws_tbl w h), hkw, Nat.le_refl _⟩
  have hR : 600000 ≤ room_1.cells ∧ 7302250 ≤ room_1.slots ∧ 9 + 1 ≤ room_1.frames ∧ 37 * (9 + 1) ≤ room_1.locals := by decide
  have S9 : aj_C9 code ret (fun r _ _ _ => r = some (.int 1)) (aj_jm D kA s.heap.size aS b p l e room_1 s m #[Value.ref b] below meth c (lw_Z below #[Value.ref b] s) 4 600000 7302250) := by
    refine ⟨?_, ?_, ?_, ?_⟩
    · intro pc L Z I G C ty v p0 p1 p2 p3 g1 g2 ls H locs hl hi
      cases p3
      refine va_forget hi.2.2.2 (W.widen g1 g2 ?_)
      exact lw_ret hx hb hr hlk p0
    · intro pc L Z I G C v p0 p1; cases p1
    · intro pc L Z I G C nm v p0 p1; cases p1
    · intro pc L Z I G C p0 p1; cases p1
  have K := walk (aj_jm D kA s.heap.size aS b p l e room_1 s m #[Value.ref b] below meth c (lw_Z below #[Value.ref b] s) 4 600000 7302250) ⟨aj_S1 F, aj_S2 F, aj_S3 F, aj_S4 F, aj_S5 F (fun h => by cases h), aj_S6 F (fun n xs' h => by cases h; exact ⟨hX, hbl, by omega⟩), aj_S7 F ⟨hR.1, hR.2.1, by omega, by omega⟩, aj_S8 (b := b) (d := 9) F hR (aj_met l D kA s.heap.size aS b 9), S9⟩
  have he := aj_entry (aj_ca s.heap.size aS b) [Value.ref 1] (n := 4) (by decide)
  rw [lg_entry_eq]
  exact K (Nat.zero_le _) (Nat.zero_le _) _ s.heap [] he ⟨⟨rfl, fun o h => absurd rfl h, fun o => trivial⟩, va_S.rf⟩
/-! the law's entry: both sides are made -/
theorem z_end : zAll zs_154 := by
  constructor
  · have h : aj_zk.all (fun p => decide (zs_154.2.1 p.1 = some p.2)) = true := by decide +kernel
    exact fun p hp => by simpa using List.all_eq_true.mp h p hp
  · have h : aj_zr.all (fun p => decide (zs_154.2.2 p.1 p.2.1 = .ref p.2.2)) = true := by decide +kernel
    exact fun p hp => by simpa using List.all_eq_true.mp h p hp
theorem l_end : lInv zs_154 is_168 aj_G0 := by
  refine ⟨z_end, ⟨0, by decide, rfl⟩, 0, fun _ => 0, fun _ _ => 0, fun _ _ => 0, fun _ _ => 0, 0, fun _ => 0, -1, ⟨⟨?_, by decide, fun t ht => absurd ht (by omega)⟩, ⟨?_, by decide, fun t ht => absurd ht (by omega)⟩, ?_⟩, ⟨?_, by decide, fun t ht => absurd ht (by omega)⟩, ⟨?_, by decide, fun t ht => absurd ht (by omega)⟩, ?_⟩ <;> decide +kernel
set_option maxRecDepth 20000 in
theorem law_walk {nX : Nat} {xs : Nat → Int32} {J : aj_J} {wr : rl_t → Int32 → Int32 → Option (Nat × (Nat → Nat))} {rd : Nat → (Nat → Nat) → (Int32 × Int32) ⊕ rl_t} (hWC : WC wr) (hWM : WM wr) (hRC : RC rd) (hRM : RM rd)
    (hJ : aj_Cl 11 code ret false 600000 7302250 (some (nX, xs)) (aj_T 9) (fun r _ _ _ => r = some (.int 1)) J) (hn : nX ≤ 3072) : J 0 [some (.ref 1), none, none, none] [] zs_0 is_0 aj_G0 (0, 0) := by
  refine s_new hJ ln_11_7 d_L_0 (by decide) (by decide) ?_
  refine en_1 ?_
  refine s_dup hJ d_L_3 rfl ?_
  refine s_I0 (k := 51) (w := 1707) hJ lm_11_9 d_L_4 (Nat.le_of_ble_eq_true rfl) (fun _ _ => ⟨by decide, by decide⟩) ?_
  refine ctor_2 (d := 4) ?_
  refine s_astore_n hJ d_L_7 (Nat.le_of_ble_eq_true rfl) ?_
  refine s_new hJ ln_11_10 d_L_8 (by decide) (by decide) ?_
  refine en_122 ?_
  refine s_dup hJ d_L_11 rfl ?_
  refine s_I0 (k := 16) (w := 1544) hJ lm_11_12 d_L_12 (Nat.le_of_ble_eq_true rfl) (fun _ _ => ⟨by decide, by decide⟩) ?_
  refine ctor_54 (d := 8) ?_
  refine b_L_15 hJ rfl ?_
  exact law_loop hWC hWM hRC hRM hJ hn (fun _ _ _ => rfl) _ (nX + 6) 0 _ _ _ (by omega) (by omega) l_end
theorem whole_open {p : Program} {e : Env} {s : State} {m : MethodId} {below : List Frame} {meth : Method} {c : Code} (l : Launch) {b L : Nat} {xs : Nat → Int32} {wr : rl_t → Int32 → Int32 → Option (Nat × (Nat → Nat))} {rd : Nat → (Nat → Nat) → (Int32 × Int32) ⊕ rl_t} (hWC : WC wr) (hWM : WM wr) (hRC : RC rd) (hRM : RM rd) (hL : L ≤ 3072) (C0 : lw_At p s m meth c b L xs) :
    W p l e room_1 s m #[Value.ref b] below meth c s.heap [] 0 0 (lw_Z below #[Value.ref b] s) (entryFrame m ([Value.ref b] : List Value).toArray 4) :=
  aj_start l C0 (fun J hJ => law_walk hWC hWM hRC hRM hJ hL)
