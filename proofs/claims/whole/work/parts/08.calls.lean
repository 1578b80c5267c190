/-! calls, returns, and a method's contract out of its walk -/
def aj_isN : Cond → Bool
  | .fieldLinkNest .. => true
  | .methodLinkNest .. => true
  | _ => false
theorem aj_nws : aj_nw.all aj_isN = true := by decide +kernel
theorem aj_nw_warm {w : Cond} (hn : aj_isN w = true) {s U : State} (hW : s.WarmedH U.vm) (h : va_Nw w s) : va_Nw w U := by
  unfold aj_isN at hn
  split at hn
  · exact va_Nw.warmF hW h
  · exact va_Nw.warmM hW h
  · cases hn
theorem aj_nw_same {w : Cond} (hn : aj_isN w = true) {u U : State} (hv : u.vm = U.vm) (h : va_Nw w u) : va_Nw w U := by
  unfold aj_isN at hn
  split at hn
  · exact va_Nw.same rfl hv h
  · exact va_Nw.same rfl hv h
  · cases hn
theorem aj_kw_same {D : va_G} {kA : Nat → ClassId} {bs aS : Nat} {u U : State} {H : Heap} (hv : u.vm = U.vm) (h : aj_kw D kA bs aS u H) : aj_kw D kA bs aS U H := by
  obtain ⟨h1, h2, h3, h4, h5⟩ := h
  have ha : u.vm.Alike U.vm := by rw [hv]; exact Vm.Alike.refl _
  exact ⟨va_K.moved ha h1, fun w hw => aj_nw_same (List.all_eq_true.mp aj_nws w hw) hv (h2 w hw), fun C hC => va_AO.moved ha (h3 C hC), va_Z.moved ha h4, va_T.moved ha h5⟩
theorem aj_kw_warm {D : va_G} {kA : Nat → ClassId} {bs aS : Nat} {s U : State} {H : Heap} {locs : List Loc} (hW : s.WarmedH U.vm) (h : aj_kw D kA bs aS s s.heap) (hS : va_S (fun q => bs ≤ q) s.heap H locs) : aj_kw D kA bs aS U H := by
  obtain ⟨h1, h2, h3, h4, h5⟩ := h
  exact ⟨va_K.moved hW.alike h1, fun w hw => aj_nw_warm (List.all_eq_true.mp aj_nws w hw) hW (h2 w hw), fun C hC => va_AO.moved hW.alike (h3 C hC), va_Z.moved hW.alike (h4.kept hS.2.1), va_T.moved hW.alike (h5.kept hS.2.1)⟩
def aj_Qc (D : va_G) (kA : Nat → ClassId) (bs aS b : Nat) (Q : aj_Q) : Array Value → State → Outcome → State → Prop := fun _ st oc t =>
  (∃ (r : Option Value) (Z : aj_Z) (I : aj_I) (G : aj_G), oc = .returned (r.map (aj_cv (aj_ca bs aS b))) ∧ Q r Z I G ∧ aj_iw D kA bs aS b Z I G t.heap) ∧ va_F (fun q => bs ≤ q) st t
def aj_Pc (D : va_G) (kA : Nat → ClassId) (bs aS b : Nat) (as : List Value) (Z : aj_Z) (I : aj_I) (G : aj_G) : Array Value → State → Prop :=
  va_Pc (as.map (aj_cv (aj_ca bs aS b))) (fun U => aj_iw D kA bs aS b Z I G U.heap ∧ aj_kw D kA bs aS U U.heap ∧ bs ≤ U.heap.size)
def aj_rm (d mc ms : Nat) : Room := { frames := d, cells := mc, slots := ms, locals := 37 * d }
def aj_MT (l : Launch) (D : va_G) (kA : Nat → ClassId) (bs aS b : Nat) (d mc ms y : Nat) (as : List Value) (Z : aj_Z) (I : aj_I) (G : aj_G) (Q : aj_Q) : Prop :=
  ∀ (oc : Nat) (nm : MethodName) (cc : ByteArray) (nL : Nat) (rt : Option FieldType), aj_ms[y]? = some (oc, nm, cc, nL, rt) → Met l nm (Cond.code nm cc nL rt :: aj_ws) (aj_rm d mc ms) (aj_Pc D kA bs aS b as Z I G) (aj_Qc D kA bs aS b Q) mc ms (fun q => bs ≤ q)
theorem aj_blind {D : va_G} {kA : Nat → ClassId} {bs aS b : Nat} {as : List Value} {Z : aj_Z} {I : aj_I} {G : aj_G} : FrameBlind (aj_Pc D kA bs aS b as Z I G) :=
  fun a U g mk q => ⟨q.1, q.2.1, aj_kw_same (u := U) (U := U.calling g mk a) (H := U.heap) rfl q.2.2.1, q.2.2.2⟩
section AJC
variable {D : va_G} {kA : Nat → ClassId} {bs aS b : Nat} {p : Program} {l : Launch} {e : Env} {R : Room} {s : State} {m : MethodId} {args : Array Value} {below : List Frame} {meth : Method} {c : Code} {Q : State → Prop} {nL oc mc ms : Nat} {cc : ByteArray}
theorem aj_Wrun {k w pc : Nat} {L : aj_L} {st st0 : List Value} {C : Nat × Nat} {H : Heap} {locs : List Loc} {ls : Array Slot} {a : Array Value}
    (hrun : va_Run p l e R s m args below meth c H locs C.1 C.2 k w (F0 m pc ls st0) (st.map (aj_cv (aj_ca bs aS b))) (aj_Qc D kA bs aS b (fun r Z1 I1 G1 => aj_jm D kA bs aS b p l e R s m args below meth c Q nL mc ms (pc + 3) L (r.toList ++ st) Z1 I1 G1 (C.1 + k, C.2 + w)) a) (fun q => bs ≤ q))
    (hc : C.1 + k ≤ mc ∧ C.2 + w ≤ ms) (hl : aj_lr (aj_ca bs aS b) ls nL L) (hS : va_S (fun q => bs ≤ q) s.heap H locs) : W p l e R s m args below meth c H locs C.1 C.2 Q (F0 m pc ls st0) := by
  intro T hT X
  obtain ⟨v, st₀, t, T', L', h0, X', hL, e1, e2, ⟨⟨r, Z1, I1, G1, hv, hq, hw⟩, hz, hk⟩, st'⟩ := hrun T hT X
  have hv : v = r.map (aj_cv (aj_ca bs aS b)) := Outcome.returned.inj hv
  subst hv
  rw [h0] at hz hk
  have hS1 : va_S (fun q => bs ≤ q) s.heap T'.heap (locs ++ L') := ⟨Nat.le_trans hS.1 (by rw [e1]; exact hz), fun q h1 h2 => by rw [e1, hk q (Nat.lt_of_lt_of_le h1 hS.1) h2]; exact hS.2.1 q h1 h2, fun q hq => by
    rcases List.mem_append.mp hq with h | h
    · exact hS.2.2 q h
    · exact hL q h⟩
  obtain ⟨t2, a1, b1⟩ := hq hc.1 hc.2 ls T'.heap (locs ++ L') hl ⟨by rw [e1]; exact hw, hS1⟩ T' rfl X'
  refine ⟨t2, st' t2 ?_, b1⟩
  have e9 : (r.toList ++ st).map (aj_cv (aj_ca bs aS b)) = (r.map (aj_cv (aj_ca bs aS b))).toList ++ st.map (aj_cv (aj_ca bs aS b)) := by cases r <;> rfl
  rw [e9] at a1
  exact a1
theorem aj_S8 {d : Nat} (F : aj_fx D kA bs aS p s m args c nL oc cc) (hR : mc ≤ R.cells ∧ ms ≤ R.slots ∧ d + 1 ≤ R.frames ∧ 37 * (d + 1) ≤ R.locals) (ih : ∀ (k w y : Nat) (as : List Value) (Z : aj_Z) (I : aj_I) (G : aj_G) (Q : aj_Q), aj_T d k w y as Z I G Q → aj_MT l D kA bs aS b d k w y as Z I G Q) : aj_C8 oc cc mc ms (aj_T d) (aj_jm D kA bs aS b p l e R s m args below meth c Q nL mc ms) := by
  obtain ⟨hx, hb, hml, hown, hts, hkw, hbs⟩ := F
  have hG : ∀ {y oc' nL' : Nat} {nm : MethodName} {cc' : ByteArray} {rt : Option FieldType}, aj_ms[y]? = some (oc', nm, cc', nL', rt) → GoodIn aj_ws (Cond.code nm cc' nL' rt :: aj_ws) := fun h w hw => by
    rcases List.mem_cons.mp hw with h1 | h1
    · subst h1; exact ⟨aj_ms_ws h, Or.inl rfl⟩
    · exact ⟨h1, aj_good w h1⟩
  have hgeR : ∀ {H : Heap} {locs : List Loc}, va_S (fun q => bs ≤ q) s.heap H locs → bs ≤ H.size := fun h => Nat.le_trans hbs h.1
  refine ⟨?_, ?_, ?_⟩
  · intro pc L st Z I G C i y ci n h k w o as p0 p1 p2 p3 p4 p5 p6 g1 g2 ls H locs hl hi
    obtain ⟨oc', nm, cc', nL', rt, hms, hnL, hd, hini, hlink, hv, -, -⟩ := aj_lm_spec p0
    obtain ⟨hin, hsel, r, hr, hrc⟩ := hv rfl
    obtain ⟨r', hr', cellB, q1, q2, q3, q4⟩ := aj_ck_obj (hi.1.2.2 o) p4
    have hM := ih k w y (.ref o :: as) Z I G _ p6 oc' nm cc' nL' rt hms
    have hfc := (hkw.1.1 ci r hr).2.1
    have hp : PreV s H nm.cls (aj_ca bs aS b o) (aj_Pc D kA bs aS b (.ref o :: as) Z I G) (as.map (aj_cv (aj_ca bs aS b))) :=
      ⟨aj_blind, ⟨cellB, q1, by rw [q3]; rfl, by rw [q2, ← hrc]; exact hfc⟩, fun U hU hW => ⟨rfl, by rw [hU]; exact hi.1, by rw [hU]; exact aj_kw_warm hW hkw hi.2, by rw [hU]; exact hgeR hi.2⟩⟩
    have hcs := aj_cats (aj_ca bs aS b) st
    have hc2 := p5 g1 g2
    have hstk : (as.reverse ++ .ref o :: st).map (aj_cv (aj_ca bs aS b)) = (as.map (aj_cv (aj_ca bs aS b))).reverse ++ .ref (aj_ca bs aS b o) :: st.map (aj_cv (aj_ca bs aS b)) := by
      rw [List.map_append, List.map_reverse]; rfl
    rcases hlink with h1 | h1
    · exact aj_Wrun (va_runVN (host := aj_host) (rest := st.map (aj_cv (aj_ca bs aS b))) ⟨hx, hb, hml, hown, hts⟩ hM ⟨va_cnB n hts (hG hms) rfl rfl rfl (hkw.2.1 _ h1) (hts _ hini) hd ⟨by show d + 1 ≤ _; omega, by show 8 + (nL' + 11) + 37 * d ≤ _; omega⟩, hts _ hin, hts _ hsel⟩ hp rfl (by rw [List.length_map]; exact p2) hl.1 hstk (lv_room (by rw [hcs]; exact p3)) p1 ⟨by omega, by omega⟩) hc2 hl hi.2
    · exact aj_Wrun (va_runV (rest := st.map (aj_cv (aj_ca bs aS b))) ⟨hx, hb, hml, hown, hts⟩ hM ⟨callB_of n hts (hG hms) rfl rfl rfl (hts _ hini) (hts _ h1) hd ⟨by show d + 1 ≤ _; omega, by show 8 + (nL' + 11) + 37 * d ≤ _; omega⟩, hts _ hin, hts _ hsel⟩ hp rfl (by rw [List.length_map]; exact p2) hl.1 hstk (lv_room (by rw [hcs]; exact p3)) p1 ⟨by omega, by omega⟩) hc2 hl hi.2
  · intro pc L st Z I G C i y ci n h k w as p0 p1 p2 p3 p5 p6 g1 g2 ls H locs hl hi
    obtain ⟨oc', nm, cc', nL', rt, hms, hnL, hd, hini, hlink, -, hv, -⟩ := aj_lm_spec p0
    have hst := hv rfl
    have hM := ih k w y as Z I G _ p6 oc' nm cc' nL' rt hms
    have hp : PreS s H (aj_Pc D kA bs aS b as Z I G) (as.map (aj_cv (aj_ca bs aS b))) :=
      ⟨aj_blind, fun U hU hW => ⟨rfl, by rw [hU]; exact hi.1, by rw [hU]; exact aj_kw_warm hW hkw hi.2, by rw [hU]; exact hgeR hi.2⟩⟩
    have hcs := aj_cats (aj_ca bs aS b) st
    have hc2 := p5 g1 g2
    have hstk : (as.reverse ++ st).map (aj_cv (aj_ca bs aS b)) = (as.map (aj_cv (aj_ca bs aS b))).reverse ++ st.map (aj_cv (aj_ca bs aS b)) := by
      rw [List.map_append, List.map_reverse]
    rcases hlink with h1 | h1
    · exact aj_Wrun (va_runSN (host := aj_host) (rest := st.map (aj_cv (aj_ca bs aS b))) ⟨hx, hb, hml, hown, hts⟩ hM ⟨va_cnB n hts (hG hms) rfl rfl rfl (hkw.2.1 _ h1) (hts _ hini) hd ⟨by show d + 1 ≤ _; omega, by show 8 + (nL' + 11) + 37 * d ≤ _; omega⟩, hts _ hst, trivial⟩ hp rfl (by rw [List.length_map]; exact p2) hl.1 hstk (lv_room (by rw [hcs]; exact p3)) p1 ⟨by omega, by omega⟩) hc2 hl hi.2
    · exact aj_Wrun (va_runS (rest := st.map (aj_cv (aj_ca bs aS b))) ⟨hx, hb, hml, hown, hts⟩ hM ⟨callB_of n hts (hG hms) rfl rfl rfl (hts _ hini) (hts _ h1) hd ⟨by show d + 1 ≤ _; omega, by show 8 + (nL' + 11) + 37 * d ≤ _; omega⟩, hts _ hst⟩ hp rfl (by rw [List.length_map]; exact p2) hl.1 hstk (lv_room (by rw [hcs]; exact p3)) p1 ⟨by omega, by omega⟩) hc2 hl hi.2
  · intro pc L st Z I G C i y ci n h k w o as p0 p1 p2 p3 p5 p6 g1 g2 ls H locs hl hi
    obtain ⟨oc', nm, cc', nL', rt, hms, hnL, hd, hini, hlink, -, -, hv⟩ := aj_lm_spec p0
    obtain ⟨hnm, hin, hrt⟩ := hv rfl
    subst hrt
    have hM := ih k w y (.ref o :: as) Z I G _ p6 oc' nm cc' nL' none hms
    have hp : PreS s H (aj_Pc D kA bs aS b (.ref o :: as) Z I G) (.ref (aj_ca bs aS b o) :: as.map (aj_cv (aj_ca bs aS b))) :=
      ⟨aj_blind, fun U hU hW => ⟨rfl, by rw [hU]; exact hi.1, by rw [hU]; exact aj_kw_warm hW hkw hi.2, by rw [hU]; exact hgeR hi.2⟩⟩
    have hcs := aj_cats (aj_ca bs aS b) st
    have hc2 := p5 g1 g2
    have hstk : (as.reverse ++ .ref o :: st).map (aj_cv (aj_ca bs aS b)) = (as.map (aj_cv (aj_ca bs aS b))).reverse ++ .ref (aj_ca bs aS b o) :: st.map (aj_cv (aj_ca bs aS b)) := by
      rw [List.map_append, List.map_reverse]; rfl
    rcases hlink with h1 | h1
    · exact aj_Wrun (va_runIN (host := aj_host) (rest := st.map (aj_cv (aj_ca bs aS b))) ⟨hx, hb, hml, hown, hts⟩ hM ⟨va_cnB n hts (hG hms) rfl rfl rfl (hkw.2.1 _ h1) (hts _ hini) hd ⟨by show d + 1 ≤ _; omega, by show 8 + (nL' + 11) + 37 * d ≤ _; omega⟩, hnm, hts _ hin⟩ hp rfl (by rw [List.length_map]; exact p2) hl.1 hstk (lv_room (by rw [hcs]; exact p3)) p1 ⟨by omega, by omega⟩) hc2 hl hi.2
    · exact aj_Wrun (va_runI (rest := st.map (aj_cv (aj_ca bs aS b))) ⟨hx, hb, hml, hown, hts⟩ hM ⟨callB_of n hts (hG hms) rfl rfl rfl (hts _ hini) (hts _ h1) hd ⟨by show d + 1 ≤ _; omega, by show 8 + (nL' + 11) + 37 * d ≤ _; omega⟩, hnm, hts _ hin⟩ hp rfl (by rw [List.length_map]; exact p2) hl.1 hstk (lv_room (by rw [hcs]; exact p3)) p1 ⟨by omega, by omega⟩) hc2 hl hi.2
theorem aj_S9 {rt : Option FieldType} {Qp : aj_Q} (F : aj_fx D kA bs aS p s m args c nL oc cc) (hr : meth.sig.returnType = rt) (hlk : meth.locks = false) : aj_C9 cc rt Qp (aj_jm D kA bs aS b p l e R s m args below meth c (MQ below (aj_Qc D kA bs aS b Qp) args s mc ms (fun q => bs ≤ q)) nL mc ms) := by
  obtain ⟨hx, hb, hml, hown, hts, hkw, hbs⟩ := F
  refine ⟨?_, ?_, ?_, ?_⟩
  · intro pc L Z I G C ty v p0 p1 p2 p3 g1 g2 ls H locs hl hi
    exact W.widen g1 g2 (W.zret hx hb (hr.trans p1) p2 (fun t ht hW => ⟨⟨some (.int v), Z, I, G, rfl, p3, by rw [ht]; exact hi.1⟩, hi.2.F ht⟩) hi.2.2.2 p0 hlk)
  · intro pc L Z I G C v p0 p1 p3 g1 g2 ls H locs hl hi
    exact W.widen g1 g2 (W.lret hx hb (hr.trans p1) (fun t ht hW => ⟨⟨some (.long v), Z, I, G, rfl, p3, by rw [ht]; exact hi.1⟩, hi.2.F ht⟩) hi.2.2.2 p0 hlk)
  · intro pc L Z I G C nm v p0 p1 p2 p3 g1 g2 ls H locs hl hi
    exact W.widen g1 g2 (W.aret hx hb (hr.trans p1) (Or.inl ⟨nm, rfl⟩) (by rcases p2 with rfl | ⟨a, rfl⟩; exact Or.inl rfl; exact Or.inr ⟨_, rfl⟩) (fun t ht hW => ⟨⟨some v, Z, I, G, rfl, p3, by rw [ht]; exact hi.1⟩, hi.2.F ht⟩) hi.2.2.2 p0 hlk)
  · intro pc L Z I G C p0 p1 p3 g1 g2 ls H locs hl hi
    exact W.widen g1 g2 (W.vret hx hb (hr.trans p1) (fun t ht hW => ⟨⟨none, Z, I, G, rfl, p3, by rw [ht]; exact hi.1⟩, hi.2.F ht⟩) hi.2.2.2 p0 hlk)
end AJC
/-! the locals at a method's entry -/
theorem aj_sp_len : ∀ (f : Nat → Nat) (vs : List Value), (lg_sl (vs.map (aj_cv f))).length = (aj_sp vs).length
  | _, [] => rfl
  | f, v :: vs => by
    have ih := aj_sp_len f vs
    unfold lg_sl at ih ⊢
    rw [List.map_cons, List.flatMap_cons, List.length_append, ih]
    cases v <;> simp [aj_sp, aj_cv, Value.category] <;> omega
theorem aj_sp_get : ∀ (f : Nat → Nat) (vs : List Value) (n i : Nat) (v : Value), (aj_sp vs)[i]? = some (some v) → (n + i, aj_cv f v) ∈ lv_args n (vs.map (aj_cv f))
  | f, [], n, i, v, h => by simp [aj_sp] at h
  | f, w :: vs, n, 0, v, h => by
    have hw : w = v := by cases w <;> simpa [aj_sp] using h
    subst hw
    rw [List.map_cons]
    exact List.mem_cons_self
  | f, w :: vs, n, i + 1, v, h => by
    rw [List.map_cons]
    unfold lv_args
    refine List.mem_cons_of_mem _ ?_
    by_cases hc : w.category = 2
    · rw [aj_cv_cat, if_pos hc]
      cases i with
      | zero => cases w <;> simp [aj_sp, Value.category] at h hc
      | succ i =>
        have h' : (aj_sp vs)[i]? = some (some v) := by cases w <;> simp [Value.category] at hc <;> simpa [aj_sp] using h
        have := aj_sp_get f vs (n + 2) i v h'
        rw [show n + (i + 1 + 1) = n + 2 + i by omega]
        exact this
    · rw [aj_cv_cat, if_neg hc]
      have h' : (aj_sp vs)[i]? = some (some v) := by cases w <;> first | (simp [Value.category] at hc; done) | simpa [aj_sp] using h
      have := aj_sp_get f vs (n + 1) i v h'
      rw [show n + (i + 1) = n + 1 + i by omega]
      exact this
theorem aj_entry (f : Nat → Nat) (vs : List Value) {n : Nat} (h : (aj_sp vs).length ≤ n) : aj_lr f ((lg_sl (vs.map (aj_cv f)) ++ List.replicate (n - (lg_sl (vs.map (aj_cv f))).length) Slot.unset).toArray) n (aj_l0 n vs) := by
  refine aj_lr.of (lv_entry (vs.map (aj_cv f)) (by rw [aj_sp_len]; exact h)) ?_ (fun i v hv => ?_)
  · unfold aj_l0
    rw [List.length_append, List.length_replicate]
    omega
  · unfold aj_l0 at hv
    by_cases hi : i < (aj_sp vs).length
    · rw [List.getElem?_append_left hi] at hv
      have := aj_sp_get f vs 0 i v hv
      rw [Nat.zero_add] at this
      exact this
    · rw [List.getElem?_append_right (by omega)] at hv
      have := List.mem_of_getElem? hv
      rw [List.mem_replicate] at this
      cases this.2
theorem aj_plain : aj_ms.all (fun q => plainName q.2.1.cls) = true := by decide +kernel
theorem aj_owns : aj_ms.all (fun q => decide (aj_nm q.1 = q.2.1.cls)) = true := by decide +kernel
set_option maxHeartbeats 4000000 in
/-- a method whose walk ends keeps its contract on the machine -/
theorem aj_met (l : Launch) (D : va_G) (kA : Nat → ClassId) (bs aS b : Nat) : ∀ (d mc ms y : Nat) (as : List Value) (Z : aj_Z) (I : aj_I) (G : aj_G) (Q : aj_Q), aj_T d mc ms y as Z I G Q → aj_MT l D kA bs aS b d mc ms y as Z I G Q := by
  intro d
  induction d with
  | zero => intro mc ms y as Z I G Q h; exact h.elim
  | succ d ih =>
    intro mc ms y as Z I G Q h oc nm cc nL rt hms
    have h : (aj_sp as).length ≤ nL ∧ ∀ J : aj_J, aj_Cl oc cc rt (nm.name == "<init>") mc ms none (aj_T d) Q J → J 0 (aj_l0 nL as) [] Z I G (0, 0) := by
      unfold aj_T at h
      rw [hms] at h
      exact h
    obtain ⟨hlen, hT⟩ := h
    refine Met.ofW (cc := cc) (maxL := nL) (ret := rt) (List.all_eq_true.mp aj_plain _ (List.mem_of_getElem? hms)) rfl ?_
    intro p e s m args below meth c s₁ B hml hv
    obtain ⟨rfl, hiw, hkw, hbs⟩ := hv
    have hts : ∀ w ∈ aj_ws, w.before _ s = true := fun w hw => atoms_spec (ws := Cond.code nm cc nL rt :: aj_ws) B.pre w (List.mem_cons_of_mem _ hw)
    have hown : s.vm.findClass (aj_nm oc) = some m.cls := by
      rw [show aj_nm oc = nm.cls by simpa using List.all_eq_true.mp aj_owns _ (List.mem_of_getElem? hms)]
      exact findClass_of_methodNamed B.named
    have F : aj_fx D kA bs aS p s m _ c nL oc cc := ⟨B.exec, B.bytes, hml, hown, hts, hkw, hbs⟩
    have hR : mc ≤ (headSpec (Cond.code nm cc nL rt :: aj_ws) (aj_rm (d + 1) mc ms)).room.cells ∧ ms ≤ (headSpec (Cond.code nm cc nL rt :: aj_ws) (aj_rm (d + 1) mc ms)).room.slots ∧ d + 1 ≤ (headSpec (Cond.code nm cc nL rt :: aj_ws) (aj_rm (d + 1) mc ms)).room.frames ∧ 37 * (d + 1) ≤ (headSpec (Cond.code nm cc nL rt :: aj_ws) (aj_rm (d + 1) mc ms)).room.locals :=
      ⟨Nat.le_refl _, Nat.le_refl _, Nat.le_refl _, Nat.le_refl _⟩
    have hin : (nm.name == "<init>") = true → meth.name = "<init>" := fun h => by rw [(name_of_methodNamed B.named B.method).1]; simpa using h
    have K := hT (aj_jm D kA bs aS b p l e (headSpec (Cond.code nm cc nL rt :: aj_ws) (aj_rm (d + 1) mc ms)).room s m (as.map (aj_cv (aj_ca bs aS b))).toArray below meth c (MQ below (aj_Qc D kA bs aS b Q) (as.map (aj_cv (aj_ca bs aS b))).toArray s mc ms (fun q => bs ≤ q)) nL mc ms) ⟨aj_S1 F, aj_S2 F, aj_S3 F, aj_S4 F, aj_S5 F hin, aj_S6 F (fun n xs h => by cases h), aj_S7 F ⟨hR.1, hR.2.1, by omega, by omega⟩, aj_S8 (b := b) F hR ih, aj_S9 F B.returns B.notSynchronized⟩
    rw [lg_entry_eq]
    exact K (Nat.zero_le _) (Nat.zero_le _) _ s.heap [] (aj_entry _ _ hlen) ⟨hiw, va_S.rf⟩
