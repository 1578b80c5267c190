/-! arrays and new cells -/
theorem aj_tys_at (kA : Nat → ClassId) {t : Nat} (h : t < aj_nt) : (aj_tys kA)[t]? = some (kA t, aj_at t) := by
  unfold aj_tys
  rw [List.getElem?_map, List.getElem?_range h]
  rfl
/-- an array of references: its number of type, the class of its elements -/
def aj_oktc (q : Nat × Nat) : Bool := decide (q.1 < aj_nt) && decide (4 ≤ q.1) && (match aj_cl[q.2]? with
  | some r => decide (aj_at q.1 = .object r.1) && decide (r.1 ∈ aj_ao)
  | none => false)
theorem aj_oktcs : aj_tcs.all aj_oktc = true := by decide +kernel
theorem aj_tc_spec {t ci : Nat} (h : (t, ci) ∈ aj_tcs) : t < aj_nt ∧ 4 ≤ t ∧ ∃ r : vw_C, aj_cl[ci]? = some r ∧ aj_at t = .object r.1 ∧ r.1 ∈ aj_ao := by
  have h1 := List.all_eq_true.mp aj_oktcs _ h
  unfold aj_oktc at h1
  simp only [Bool.and_eq_true, decide_eq_true_eq] at h1
  obtain ⟨⟨a1, a2⟩, a3⟩ := h1
  refine ⟨a1, a2, ?_⟩
  cases hc : aj_cl[ci]? with
  | none => rw [hc] at a3; cases a3
  | some r =>
    rw [hc] at a3
    simp only [Bool.and_eq_true, decide_eq_true_eq] at a3
    exact ⟨r, rfl, a3.1, a3.2⟩
section AJA
variable {D : va_G} {kA : Nat → ClassId} {bs aS b : Nat} {p : Program} {l : Launch} {e : Env} {R : Room} {s : State} {m : MethodId} {args : Array Value} {below : List Frame} {meth : Method} {c : Code} {Q : State → Prop} {nL oc mc ms : Nat} {cc : ByteArray}
theorem aj_in_ast {Z : aj_Z} {I I1 : aj_I} {G G1 : aj_G} {Rf1 : Nat → Nat → Value} {H0 H H1 : Heap} {locs : List Loc} {o t n j : Nat} {v : Value} (hi : aj_in D kA bs aS b Z I G H0 H locs) (hk : Z.2.1 o = some (.inr (t, n))) (hv : ∀ q, q ≠ o → I1 q = I q ∧ G1 q = G q ∧ Rf1 q = Z.2.2 q) (ho : ∀ k, aj_tv (Z.1, Z.2.1, Rf1) I1 G1 t o k = if k = j then v else aj_tv Z I G t o k)
    (he : H1[aj_ca bs aS b o]? = some ((arrV (kA t) n (fun k => aj_cv (aj_ca bs aS b) (aj_tv Z I G t o k))).setSlot j (aj_cv (aj_ca bs aS b) v))) (hz : H1.size = H.size) (hq : ∀ q, q ≠ aj_ca bs aS b o → H1[q]? = H[q]?) : aj_in D kA bs aS b (Z.1, Z.2.1, Rf1) I1 G1 H0 H1 (locs ++ [⟨aj_ca bs aS b o, j⟩]) := by
  refine aj_in_set hi (by rw [hk]; exact fun q => by cases q) rfl rfl (fun q hqo t k => ?_) hz hq (aj_ck_of_arr hk ?_)
  · obtain ⟨h1, h2, h3⟩ := hv q hqo
    unfold aj_tv
    dsimp only
    rw [h1, h2, h3]
  · rw [he, arrV_store]
    congr 2
    funext k
    unfold updV
    rw [ho k]
    by_cases hkj : k = j
    · rw [if_pos hkj, if_pos hkj]
    · rw [if_neg hkj, if_neg hkj]
theorem aj_S6 {X : Option (Nat × (Nat → Int32))} (F : aj_fx D kA bs aS p s m args c nL oc cc) (hX : ∀ n xs, X = some (n, xs) → va_X b n xs s s.heap ∧ b < s.heap.size ∧ ¬ bs ≤ b) : aj_C6 X cc (aj_jm D kA bs aS b p l e R s m args below meth c Q nL mc ms) := by
  obtain ⟨hx, hb, hml, hown, hts, hkw, hbs⟩ := F
  have hA : ∀ t, t < aj_nt → ArrOfT s (kA t) (aj_at t) ∧ va_RA s (kA t) (aj_at t) := fun t h => hkw.1.2 t _ (aj_tys_at kA h)
  have hlt : ∀ {i : Int32} {n : Nat}, vp_in i n → i.toNatClampNeg < n := fun h => Nat.not_le.mp fun q => h (Or.inr q)
  have hin : ∀ {i : Int32} {n : Nat} {cA : ClassId} {f : Nat → Value}, vp_in i n → ¬ (i < 0 ∨ (arrV cA n f).slots.size ≤ i.toNatClampNeg) := fun h => by rw [arrV_size]; exact h
  refine ⟨?_, ?_, ?_, ?_, ?_, ?_, ?_, ?_, ?_, ?_, ?_, ?_, ?_⟩
  · intro pc L st Z I G C o n i p0 p1 p2 p3 g1 g2 ls H locs hl hi
    exact W.iald (v := .int (I o i.toNatClampNeg)) hx hb (aj_ck_arr (hi.1.2.2 o) p1) ((hA 0 (by decide)).1 _ _) (fun q => by cases q) (hin p2) (by rw [arrV_read _ _ (hlt p2)]; rfl) rfl rfl p0 (p3 g1 g2 ls H locs hl hi)
  · intro pc L st Z I G C o n i p0 p1 p2 p3 g1 g2 ls H locs hl hi
    exact W.lald (v := .long (G o i.toNatClampNeg)) hx hb (aj_ck_arr (hi.1.2.2 o) p1) ((hA 1 (by decide)).1 _ _) (fun q => by cases q) (hin p2) (by rw [arrV_read _ _ (hlt p2)]; rfl) rfl rfl p0 (p3 g1 g2 ls H locs hl hi)
  · intro pc L st Z I G C o n i p0 p1 p2 p3 g1 g2 ls H locs hl hi
    exact W.bald (v := .int (I o i.toNatClampNeg)) hx hb (aj_ck_arr (hi.1.2.2 o) p1) ((hA 2 (by decide)).1 _ _) (fun q => by cases q) (hin p2) (by rw [arrV_read _ _ (hlt p2)]; rfl) rfl rfl p0 (p3 g1 g2 ls H locs hl hi)
  · intro pc L st Z I G C o n i p0 p1 p2 p3 g1 g2 ls H locs hl hi
    exact W.zald (v := .int (I o i.toNatClampNeg)) hx hb (aj_ck_arr (hi.1.2.2 o) p1) ((hA 3 (by decide)).1 _ _) (fun q => by cases q) (hin p2) (by rw [arrV_read _ _ (hlt p2)]; rfl) rfl rfl p0 (p3 g1 g2 ls H locs hl hi)
  · intro pc L st Z I G C o n t ci i v p0 p1 pt p2 pv p3 g1 g2 ls H locs hl hi
    obtain ⟨h1, h4, r, hr, hty, -⟩ := aj_tc_spec pt
    have hAt := (hA t h1).1
    rw [hty] at hAt
    exact W.aald (v := aj_cv (aj_ca bs aS b) v) (ty := .object r.1) hx hb (aj_ck_arr (hi.1.2.2 o) p1) (hAt _ _) rfl (fun q => by cases q) (hin p2) (by rw [arrV_read _ _ (hlt p2), aj_tv_ref h4, pv]) rfl rfl p0 (p3 g1 g2 ls H locs hl hi)
  · intro pc L st Z I G C o n i x p0 p1 p2 p3 g1 g2 ls H locs hl hi
    refine W.iast hx hb (aj_ck_arr (hi.1.2.2 o) p1) ((hA 0 (by decide)).1 _ _) (fun q => by cases q) (hin p2) rfl rfl p0 fun H1 e1 z oq => ?_
    exact p3 g1 g2 ls H1 _ hl (aj_in_ast (v := .int x) (Rf1 := Z.2.2) hi p1 (fun q hq => ⟨aj_u2_ne hq, rfl, rfl⟩) (fun k => by
      rw [aj_tv_int (by decide) (by decide), aj_tv_int (by decide) (by decide), aj_u2_eq]
      unfold va_up
      by_cases hk : k = i.toNatClampNeg
      · rw [if_pos hk, if_pos hk]
      · rw [if_neg hk, if_neg hk]) e1 z oq)
  · intro pc L st Z I G C o n i x p0 p1 p2 p3 g1 g2 ls H locs hl hi
    refine W.bast hx hb (aj_ck_arr (hi.1.2.2 o) p1) ((hA 2 (by decide)).1 _ _) (fun q => by cases q) (hin p2) rfl rfl p0 fun H1 e1 z oq => ?_
    exact p3 g1 g2 ls H1 _ hl (aj_in_ast (v := .int x.toInt8.toInt32) (Rf1 := Z.2.2) hi p1 (fun q hq => ⟨aj_u2_ne hq, rfl, rfl⟩) (fun k => by
      rw [aj_tv_int (by decide) (by decide), aj_tv_int (by decide) (by decide), aj_u2_eq]
      unfold va_up
      by_cases hk : k = i.toNatClampNeg
      · rw [if_pos hk, if_pos hk]
      · rw [if_neg hk, if_neg hk]) e1 z oq)
  · intro pc L st Z I G C o n i x p0 p1 p2 p3 g1 g2 ls H locs hl hi
    refine W.zast hx hb (aj_ck_arr (hi.1.2.2 o) p1) ((hA 3 (by decide)).1 _ _) (fun q => by cases q) (hin p2) rfl rfl p0 fun H1 e1 z oq => ?_
    exact p3 g1 g2 ls H1 _ hl (aj_in_ast (v := .int (x &&& 1)) (Rf1 := Z.2.2) hi p1 (fun q hq => ⟨aj_u2_ne hq, rfl, rfl⟩) (fun k => by
      rw [aj_tv_int (by decide) (by decide), aj_tv_int (by decide) (by decide), aj_u2_eq]
      unfold va_up
      by_cases hk : k = i.toNatClampNeg
      · rw [if_pos hk, if_pos hk]
      · rw [if_neg hk, if_neg hk]) e1 z oq)
  · intro pc L st Z I G C o n i x p0 p1 p2 p3 g1 g2 ls H locs hl hi
    refine W.last hx hb (aj_ck_arr (hi.1.2.2 o) p1) ((hA 1 (by decide)).1 _ _) (fun q => by cases q) (hin p2) rfl rfl p0 fun H1 e1 z oq => ?_
    exact p3 g1 g2 ls H1 _ hl (aj_in_ast (v := .long x) (Rf1 := Z.2.2) hi p1 (fun q hq => ⟨rfl, aj_u2_ne hq, rfl⟩) (fun k => by
      show Value.long (aj_u2 G o i.toNatClampNeg x o k) = if k = i.toNatClampNeg then Value.long x else Value.long (G o k)
      rw [aj_u2_eq]
      unfold va_up
      by_cases hk : k = i.toNatClampNeg
      · rw [if_pos hk, if_pos hk]
      · rw [if_neg hk, if_neg hk]) e1 z oq)
  · intro pc L st Z I G C o n t a ci i p0 p1 pt pa p2 p3 g1 g2 ls H locs hl hi
    obtain ⟨h1, h4, r, hr, hty, -⟩ := aj_tc_spec pt
    obtain ⟨r', hr', cellV, q1, q2, q3, q4⟩ := aj_ck_obj (hi.1.2.2 a) pa
    have hcls := (hkw.1.1 ci r hr).2
    have hRA := (hA t h1).2
    rw [hty] at hRA
    obtain ⟨kA', comp, k1, k2, k3, -⟩ := hRA
    have hcomp : comp = D.1 ci := Option.some.inj (k3.symm.trans hcls.1)
    subst hcomp
    obtain ⟨kC, hkC, -⟩ := hcls.2
    refine W.aast hx hb (aj_ck_arr (hi.1.2.2 o) p1) (fun q h => by cases h) (fun h => by cases h) k1 k2 rfl hkC ⟨fun q => p2 (Or.inl q), by rw [arrV_size]; exact hlt p2⟩ q1 (fun q h => by rw [q3] at h; cases h) (by rw [q2]; exact hkC) (by rw [q2]; exact va_assign hcls) rfl rfl p0 fun H1 e1 z oq => ?_
    exact p3 g1 g2 ls H1 _ hl (aj_in_ast (v := .ref a) hi p1 (fun q hq => ⟨rfl, rfl, aj_u2_ne hq⟩) (fun k => by
      rw [aj_tv_ref h4, aj_tv_ref h4]
      dsimp only
      rw [aj_u2_eq]
      unfold va_up
      by_cases hk : k = i.toNatClampNeg
      · rw [if_pos hk]
      · rw [if_neg hk]) e1 z oq)
  · intro pc L st Z I G C n xs i p0 p1 p2 p3 g1 g2 ls H locs hl hi
    obtain ⟨h1, h2, h3⟩ := hX n xs p1
    exact va_sld hx hb h1 h2 h3 hi.2 p2 p0 (p3 g1 g2 ls H locs hl hi)
  · intro pc L st Z I G C n xs p0 p1 p2 g1 g2 ls H locs hl hi
    obtain ⟨h1, h2, h3⟩ := hX n xs p1
    exact va_slen hx hb h1 h2 h3 hi.2 p0 (p2 g1 g2 ls H locs hl hi)
  · intro pc L st Z I G C i p0 p1 p2 g1 g2 ls H locs hl hi
    exact va_ti hx hb hkw.2.2.2.2 hi.2 p1 rfl p0 (p2 g1 g2 ls H locs hl hi)
/-- new cells: the room of the frame holds them -/
theorem aj_S7 (F : aj_fx D kA bs aS p s m args c nL oc cc) (hR : mc ≤ R.cells ∧ ms ≤ R.slots ∧ 1 ≤ R.frames ∧ 37 ≤ R.locals) : aj_C7 oc cc mc ms (aj_jm D kA bs aS b p l e R s m args below meth c Q nL mc ms) := by
  obtain ⟨hx, hb, hml, hown, hts, hkw, hbs⟩ := F
  have hA : ∀ t, t < aj_nt → ArrOfT s (kA t) (aj_at t) ∧ va_RA s (kA t) (aj_at t) := fun t h => hkw.1.2 t _ (aj_tys_at kA h)
  refine ⟨?_, ?_, ?_, ?_, ?_, ?_, ?_⟩
  · intro pc L st Z I G C i ci n p0 p1 p2 p3 p4 g1 g2 ls H locs hl hi
    obtain ⟨C0, T, N, hc, hN, h1, h2, h3⟩ := aj_ln_spec p0
    subst hN
    obtain ⟨hin, hpt, hdcl, hdf, -, -⟩ := aj_cl_spec hc
    have hKn := hkw.1.1 ci _ hc
    refine W.newcK hx hb hown (hts _ h1) (hts _ h2) (hts _ h3) rfl p1 (by omega) (by omega) hKn.2.1 rfl fun H1 kC hkC e1 z1 o1 => ?_
    have hsz : H.size = bs + Z.1 := hi.1.1
    have hB := u_born (fun k => aj_ty (T k).2.2.1) hts hin hKn hkC e1 hpt
    have hgo := p4 p2 p3 ls H1 locs hl (aj_in_new (kd := .inl ci) hi z1 o1 (aj_ck_of_obj (aj_up_eq) ⟨_, hc, by
      rw [hsz] at hB
      refine hB.to (fun k hk => ?_)
      rw [hdf k hk]
      have e1 : aj_nI Z I (Z.1 + 2) = fun _ => 0 := aj_up_eq
      have e2 : aj_nG Z G (Z.1 + 2) = fun _ => 0 := aj_up_eq
      have e3 : (aj_nZ Z (.inl ci)).2.2 (Z.1 + 2) = fun _ => .null := aj_up_eq
      unfold aj_tv aj_df
      rw [e1, e2, e3]
      by_cases ha : aj_dc (T k).2.2.1 = 1
      · rw [if_pos ha]; rfl
      · rw [if_neg ha]
        by_cases hb : aj_dc (T k).2.2.1 < 4
        · rw [if_pos hb]; rfl
        · rw [if_neg hb]; rfl⟩))
    have e9 : (Value.ref H.size :: st.map (aj_cv (aj_ca bs aS b))) = (Value.ref (Z.1 + 2) :: st).map (aj_cv (aj_ca bs aS b)) := by rw [hsz]; rfl
    exact W.eq (g2 := F0 m (pc + 3) ls ((Value.ref (Z.1 + 2) :: st).map (aj_cv (aj_ca bs aS b)))) (by rw [← e9]) hgo
  · intro pc L st Z I G C a t n x p0 p1 p2 pn p3 p4 p5 g1 g2 ls H locs hl hi
    obtain ⟨h1, h4, hty, hw⟩ := aj_pa_spec p0
    subst p2
    have hsz : H.size = bs + Z.1 := hi.1.1
    refine va_newaK hx hb (hts _ hw) rfl p1 rfl (nI_pos (by omega)) (nI_clamp (by omega)) (by have := aj_cb (newarray.typeOf a); rw [hty]; have := aj_cb (aj_at t); calc n * componentBytes (aj_at t) ≤ 2000 * 8 := Nat.mul_le_mul pn this
      _ ≤ 536870912 := by decide) (by omega) (by omega) rfl fun H1 cA e1 z1 o1 hAr hNm => ?_
    have hcA : cA = kA t := by
      have h9 := (hA t h1).2
      rw [hty] at hNm
      have : s.vm.findClass ("[" ++ (aj_at t).toString) = some (kA t) := aj_RA_prim h4 h9
      exact Option.some.inj (hNm.symm.trans this)
    subst hcA
    have hgo := p5 p3 p4 ls H1 locs hl (aj_in_new (kd := .inr (t, n)) hi z1 o1 (aj_ck_of_arr (aj_up_eq) (by
      rw [hsz] at e1
      show H1[bs + Z.1]? = _
      rw [e1, hty]
      congr 2
      funext k
      have e1 : aj_nI Z I (Z.1 + 2) = fun _ => 0 := aj_up_eq
      have e2 : aj_nG Z G (Z.1 + 2) = fun _ => 0 := aj_up_eq
      unfold aj_tv
      rw [e1, e2]
      rw [aj_prim_df h4]
      unfold aj_df
      by_cases ha : t = 1
      · rw [if_pos ha, if_pos ha]; rfl
      · rw [if_neg ha, if_neg ha, if_pos h4, if_pos h4]; rfl)))
    have e9 : (Value.ref H.size :: st.map (aj_cv (aj_ca bs aS b))) = (Value.ref (Z.1 + 2) :: st).map (aj_cv (aj_ca bs aS b)) := by rw [hsz]; rfl
    exact W.eq (g2 := F0 m (pc + 2) ls ((Value.ref (Z.1 + 2) :: st).map (aj_cv (aj_ca bs aS b)))) (by rw [← e9]) hgo
  · intro pc L st Z I G C i t n x p0 p1 p2 pn p3 p4 p5 g1 g2 ls H locs hl hi
    obtain ⟨C0, hC0, hty, h1, h4, hcl⟩ := aj_la_spec p0
    subst p2
    have hsz : H.size = bs + Z.1 := hi.1.1
    have hnc : (nI n).toNatClampNeg = n := nI_clamp (by omega)
    refine W.anew hx hb hown (hts _ hcl) (va_AO.use (hkw.2.2.1 _ hC0)) rfl p1 rfl (nI_pos (by omega)) (by rw [hnc]; omega) (by omega) (by rw [hnc]; omega) fun cA kA' comp f1 f2 f3 f4 => ?_
    rw [hnc]
    have hcA : cA = kA t := by
      have h9 := (hA t h1).2
      rw [hty] at h9
      obtain ⟨_, _, -, -, -, h10⟩ := h9
      exact Option.some.inj (f1.symm.trans h10)
    subst hcA
    generalize hH1 : H.push ({ cls := kA t, slots := Array.replicate n .null, vm := .none } : Cell) = H1
    have z1 : H1.size = H.size + 1 := by rw [← hH1, Array.size_push]
    have e1 : H1[H.size]? = some (arrV (kA t) n (fun _ => .null)) := by rw [← hH1, Array.getElem?_push_size, ← arrV_new]
    have o1 : ∀ q : Nat, q < H.size → H1[q]? = H[q]? := fun q hq => by rw [← hH1, Array.getElem?_push, if_neg (Nat.ne_of_lt hq)]
    have hgo := p5 p3 p4 ls H1 locs hl (aj_in_new (kd := .inr (t, n)) hi z1 o1 (aj_ck_of_arr (aj_up_eq) (by
      rw [hsz] at e1
      show H1[bs + Z.1]? = _
      rw [e1]
      congr 2
      funext k
      have e3 : (aj_nZ Z (.inr (t, n))).2.2 (Z.1 + 2) = fun _ => .null := aj_up_eq
      rw [aj_tv_ref h4, e3]
      rfl)))
    have e9 : (Value.ref H.size :: st.map (aj_cv (aj_ca bs aS b))) = (Value.ref (Z.1 + 2) :: st).map (aj_cv (aj_ca bs aS b)) := by rw [hsz]; rfl
    exact W.eq (g2 := F0 m (pc + 3) ls ((Value.ref (Z.1 + 2) :: st).map (aj_cv (aj_ca bs aS b)))) (by rw [← e9]) hgo
  · intro pc L st Z I G C i o p0 p1 p2 p3 g1 g2 ls H locs hl hi
    have hcs := aj_cats (aj_ca bs aS b) st
    refine W.objInit hx hb hown (hts _ (aj_oklo _ p0)) (hts _ aj_oko1) (hts _ aj_oko2) rfl (by rw [hml]; exact hl.1) (rest := st.map (aj_cv (aj_ca bs aS b))) rfl p1 hR.2.2.1 (by show 2 * 0 + _ + 12 ≤ _; rw [hcs]; omega) ?_
    exact p3 g1 g2 ls H locs hl hi
  · intro pc L st Z I G C i x y p0 p1 p2 p3 g1 g2 ls H locs hl hi
    have hcs := aj_cats (aj_ca bs aS b) st
    obtain ⟨w1, w2, w3, w4⟩ := aj_x0 p0
    exact va_mmin (rest := st.map (aj_cv (aj_ca bs aS b))) hx hb (by rw [hml]; exact hl.1.symm) hown (hts _ w1) (hts _ w2) (hts _ w3) (hts _ w4) hR.2.2.1 (by rw [hcs]; omega) (by omega) (by omega) p1 (p3 g1 g2 ls H locs hl hi)
  · intro pc L st Z I G C i x y p0 p1 p2 p3 g1 g2 ls H locs hl hi
    have hcs := aj_cats (aj_ca bs aS b) st
    obtain ⟨w1, w2, w3, w4⟩ := aj_x1 p0
    exact va_mmax (rest := st.map (aj_cv (aj_ca bs aS b))) hx hb (by rw [hml]; exact hl.1.symm) hown (hts _ w1) (hts _ w2) (hts _ w3) (hts _ w4) hR.2.2.1 (by rw [hcs]; omega) (by omega) (by omega) p1 (p3 g1 g2 ls H locs hl hi)
  · intro pc L st Z I G C i x y p0 p1 p2 p3 g1 g2 ls H locs hl hi
    have hcs := aj_cats (aj_ca bs aS b) st
    obtain ⟨w1, w2, w3, w4⟩ := aj_x2 p0
    exact va_mmin_long (rest := st.map (aj_cv (aj_ca bs aS b))) hx hb (by rw [hml]; exact hl.1.symm) hown (hts _ w1) (hts _ w2) (hts _ w3) (hts _ w4) hR.2.2.1 (by rw [hcs]; omega) (by omega) (by omega) p1 (p3 g1 g2 ls H locs hl hi)
end AJA
