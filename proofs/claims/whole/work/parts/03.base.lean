/-! The rules are sound over the machine: objects lie behind each other from bs on; number 0 is the static table, number 1 the script. -/
def aj_ca (bs aS b : Nat) : Nat → Nat
  | 0 => aS
  | 1 => b
  | k + 2 => bs + k
def aj_cv (f : Nat → Nat) : Value → Value
  | .ref k => .ref (f k)
  | v => v
theorem aj_cv_cat (f : Nat → Nat) (v : Value) : (aj_cv f v).category = v.category := by cases v <;> rfl
theorem aj_cats (f : Nat → Nat) (st : List Value) : ((st.map (aj_cv f)).map fun v => v.category).sum = (st.map fun v => v.category).sum := by
  induction st with
  | nil => rfl
  | cons a l ih => simp only [List.map_cons, List.sum_cons, ih, aj_cv_cat]
def aj_tv (Z : aj_Z) (I : aj_I) (G : aj_G) (t o k : Nat) : Value := if t = 1 then .long (G o k) else if t < 4 then .int (I o k) else Z.2.2 o k
def aj_dc (d : String) : Nat := if d = "I" then 0 else if d = "J" then 1 else if d = "B" then 2 else if d = "Z" then 3 else 4
def aj_ck (D : va_G) (kA : Nat → ClassId) (f : Nat → Nat) (Z : aj_Z) (I : aj_I) (G : aj_G) (H : Heap) (o : Nat) : Prop := match Z.2.1 o with
  | none => True
  | some (.inl ci) => ∃ r : vw_C, aj_cl[ci]? = some r ∧ t_OB (f o) (D.1 ci) r.2.2 (D.2 ci) H (fun k => aj_cv f (aj_tv Z I G (aj_dc (r.2.1 k).2.2.1) o k))
  | some (.inr (t, n)) => H[f o]? = some (arrV (kA t) n (fun k => aj_cv f (aj_tv Z I G t o k)))
def aj_tys (kA : Nat → ClassId) : List (ClassId × FieldType) := (List.range aj_nt).map (fun t => (kA t, aj_at t))
def aj_kw (D : va_G) (kA : Nat → ClassId) (bs aS : Nat) (U : State) (H : Heap) : Prop :=
  va_K D aj_cl (aj_tys kA) U ∧ (∀ w ∈ aj_nw, va_Nw w U) ∧ (∀ C ∈ aj_ao, va_AO C U) ∧ va_Z aj_gc aj_gf "[I" (.ref aS) (fun q => bs ≤ q) U H ∧ va_T .int aS aj_gn (fun j => .int (aj_gv j)) (fun q => bs ≤ q) U H
def aj_iw (D : va_G) (kA : Nat → ClassId) (bs aS b : Nat) (Z : aj_Z) (I : aj_I) (G : aj_G) (H : Heap) : Prop :=
  H.size = bs + Z.1 ∧ (∀ o, Z.2.1 o ≠ none → 2 ≤ o ∧ o < Z.1 + 2) ∧ ∀ o, aj_ck D kA (aj_ca bs aS b) Z I G H o
def aj_in (D : va_G) (kA : Nat → ClassId) (bs aS b : Nat) (Z : aj_Z) (I : aj_I) (G : aj_G) (H0 H : Heap) (locs : List Loc) : Prop :=
  aj_iw D kA bs aS b Z I G H ∧ va_S (fun q => bs ≤ q) H0 H locs
theorem aj_ca_lt {bs aS b o : Nat} (h : 2 ≤ o) : aj_ca bs aS b o = bs + (o - 2) := by
  obtain ⟨k, rfl⟩ : ∃ k, o = k + 2 := ⟨o - 2, by omega⟩
  rfl
theorem aj_tv_int {Z : aj_Z} {I : aj_I} {G : aj_G} {t o k : Nat} (h1 : t ≠ 1) (h : t < 4) : aj_tv Z I G t o k = .int (I o k) := by
  unfold aj_tv; rw [if_neg h1, if_pos h]
theorem aj_tv_ref {Z : aj_Z} {I : aj_I} {G : aj_G} {t o k : Nat} (h : 4 ≤ t) : aj_tv Z I G t o k = Z.2.2 o k := by
  unfold aj_tv; rw [if_neg (by omega), if_neg (by omega)]
theorem aj_up_ne {α : Type} {f : Nat → α} {k j : Nat} {v : α} (h : j ≠ k) : va_up f k v j = f j := by simp [va_up, h]
theorem aj_up_eq {α : Type} {f : Nat → α} {k : Nat} {v : α} : va_up f k v k = v := by simp [va_up]
theorem aj_ck_obj {D : va_G} {kA : Nat → ClassId} {f : Nat → Nat} {Z : aj_Z} {I : aj_I} {G : aj_G} {H : Heap} {o ci : Nat} (h : aj_ck D kA f Z I G H o) (hk : Z.2.1 o = some (.inl ci)) :
    ∃ r : vw_C, aj_cl[ci]? = some r ∧ t_OB (f o) (D.1 ci) r.2.2 (D.2 ci) H (fun k => aj_cv f (aj_tv Z I G (aj_dc (r.2.1 k).2.2.1) o k)) := by
  unfold aj_ck at h; rw [hk] at h; exact h
theorem aj_ck_arr {D : va_G} {kA : Nat → ClassId} {f : Nat → Nat} {Z : aj_Z} {I : aj_I} {G : aj_G} {H : Heap} {o t n : Nat} (h : aj_ck D kA f Z I G H o) (hk : Z.2.1 o = some (.inr (t, n))) :
    H[f o]? = some (arrV (kA t) n (fun k => aj_cv f (aj_tv Z I G t o k))) := by
  unfold aj_ck at h; rw [hk] at h; exact h
theorem aj_ck_of_obj {D : va_G} {kA : Nat → ClassId} {f : Nat → Nat} {Z : aj_Z} {I : aj_I} {G : aj_G} {H : Heap} {o ci : Nat} (hk : Z.2.1 o = some (.inl ci))
    (h : ∃ r : vw_C, aj_cl[ci]? = some r ∧ t_OB (f o) (D.1 ci) r.2.2 (D.2 ci) H (fun k => aj_cv f (aj_tv Z I G (aj_dc (r.2.1 k).2.2.1) o k))) : aj_ck D kA f Z I G H o := by
  unfold aj_ck; rw [hk]; exact h
theorem aj_ck_of_arr {D : va_G} {kA : Nat → ClassId} {f : Nat → Nat} {Z : aj_Z} {I : aj_I} {G : aj_G} {H : Heap} {o t n : Nat} (hk : Z.2.1 o = some (.inr (t, n)))
    (h : H[f o]? = some (arrV (kA t) n (fun k => aj_cv f (aj_tv Z I G t o k)))) : aj_ck D kA f Z I G H o := by
  unfold aj_ck; rw [hk]; exact h
/-- a cell that nobody touched, in a store that is the same at it -/
theorem aj_ck_kept {D : va_G} {kA : Nat → ClassId} {f : Nat → Nat} {Z Z1 : aj_Z} {I I1 : aj_I} {G G1 : aj_G} {H H1 : Heap} {o : Nat} (h : aj_ck D kA f Z I G H o) (hk : Z1.2.1 o = Z.2.1 o) (hv : ∀ t k, aj_tv Z1 I1 G1 t o k = aj_tv Z I G t o k) (hq : Z.2.1 o ≠ none → H1[f o]? = H[f o]?) : aj_ck D kA f Z1 I1 G1 H1 o := by
  cases hz : Z.2.1 o with
  | none => unfold aj_ck; rw [hk, hz]; trivial
  | some kd =>
    have hq := hq (by rw [hz]; exact fun q => by cases q)
    cases kd with
    | inl ci =>
      obtain ⟨r, h1, h2⟩ := aj_ck_obj h hz
      exact aj_ck_of_obj (hk.trans hz) ⟨r, h1, (h2.kept hq).to (fun k _ => by rw [hv])⟩
    | inr tn =>
      obtain ⟨t, n⟩ := tn
      refine aj_ck_of_arr (hk.trans hz) ?_
      rw [hq, aj_ck_arr h hz]
      congr 2
      funext k
      rw [hv]
theorem aj_in_set {D : va_G} {kA : Nat → ClassId} {bs aS b : Nat} {Z Z1 : aj_Z} {I I1 : aj_I} {G G1 : aj_G} {H0 H H1 : Heap} {locs : List Loc} {o i : Nat} (hi : aj_in D kA bs aS b Z I G H0 H locs) (hk : Z.2.1 o ≠ none) (h1 : Z1.1 = Z.1) (h2 : Z1.2.1 = Z.2.1) (hv : ∀ q, q ≠ o → ∀ t k, aj_tv Z1 I1 G1 t q k = aj_tv Z I G t q k)
    (hz : H1.size = H.size) (hq : ∀ q, q ≠ aj_ca bs aS b o → H1[q]? = H[q]?) (hc : aj_ck D kA (aj_ca bs aS b) Z1 I1 G1 H1 o) : aj_in D kA bs aS b Z1 I1 G1 H0 H1 (locs ++ [⟨aj_ca bs aS b o, i⟩]) := by
  obtain ⟨⟨a1, a2, a3⟩, a4⟩ := hi
  have ho := a2 o hk
  refine ⟨⟨by rw [hz, h1]; exact a1, fun q hq2 => by rw [h1]; exact a2 q (by rw [← h2]; exact hq2), fun q => ?_⟩, a4.put hz hq (by rw [aj_ca_lt ho.1]; exact Nat.le_add_right _ _)⟩
  by_cases hqo : q = o
  · rw [hqo]; exact hc
  · refine aj_ck_kept (a3 q) (by rw [h2]) (hv q hqo) (fun hn => hq _ ?_)
    have hq2 := a2 q hn
    rw [aj_ca_lt hq2.1, aj_ca_lt ho.1]
    omega
/-- a new cell behind all others -/
theorem aj_in_new {D : va_G} {kA : Nat → ClassId} {bs aS b : Nat} {Z : aj_Z} {I : aj_I} {G : aj_G} {H0 H H1 : Heap} {locs : List Loc} {kd : aj_K} (hi : aj_in D kA bs aS b Z I G H0 H locs)
    (hz : H1.size = H.size + 1) (hq : ∀ q, q < H.size → H1[q]? = H[q]?) (hc : aj_ck D kA (aj_ca bs aS b) (aj_nZ Z kd) (aj_nI Z I) (aj_nG Z G) H1 (Z.1 + 2)) : aj_in D kA bs aS b (aj_nZ Z kd) (aj_nI Z I) (aj_nG Z G) H0 H1 locs := by
  obtain ⟨⟨a1, a2, a3⟩, a4⟩ := hi
  refine ⟨⟨by rw [hz, a1]; rfl, fun q hn => ?_, fun q => ?_⟩, ⟨Nat.le_trans a4.1 (by omega), fun q g1 g2 => (hq q (Nat.lt_of_lt_of_le g1 a4.1)).trans (a4.2.1 q g1 g2), a4.2.2⟩⟩
  · by_cases hqo : q = Z.1 + 2
    · subst hqo
      exact ⟨by omega, by show Z.1 + 2 < Z.1 + 1 + 2; omega⟩
    · have hn2 : Z.2.1 q ≠ none := by
        have e : va_up Z.2.1 (Z.1 + 2) (some kd) q = Z.2.1 q := aj_up_ne hqo
        rw [← e]; exact hn
      have := a2 q hn2
      exact ⟨this.1, by show q < Z.1 + 1 + 2; omega⟩
  · by_cases hqo : q = Z.1 + 2
    · rw [hqo]; exact hc
    · refine aj_ck_kept (a3 q) (aj_up_ne hqo) (fun t k => ?_) (fun hn => hq _ ?_)
      · have e1 : aj_nI Z I q = I q := aj_up_ne hqo
        have e2 : aj_nG Z G q = G q := aj_up_ne hqo
        have e3 : (aj_nZ Z kd).2.2 q = Z.2.2 q := aj_up_ne hqo
        unfold aj_tv
        rw [e1, e2, e3]
      · have hq2 := a2 q hn
        rw [aj_ca_lt hq2.1, a1]
        omega
/-! locals -/
def aj_as (f : Nat → Nat) (L : aj_L) : List (Nat × Value) := (List.range L.length).filterMap (fun i => match L[i]? with
  | some (some v) => some (i, aj_cv f v)
  | _ => none)
theorem aj_as_mem {f : Nat → Nat} {L : aj_L} {i : Nat} {w : Value} : (i, w) ∈ aj_as f L ↔ ∃ v, L[i]? = some (some v) ∧ w = aj_cv f v := by
  unfold aj_as
  rw [List.mem_filterMap]
  constructor
  · rintro ⟨j, -, he⟩
    split at he
    next v hv =>
      cases he
      exact ⟨v, hv, rfl⟩
    next => cases he
  · rintro ⟨v, hv, rfl⟩
    refine ⟨i, List.mem_range.mpr (List.getElem?_eq_some_iff.mp hv).1, ?_⟩
    rw [hv]
def aj_lr (f : Nat → Nat) (ls : Array Slot) (nL : Nat) (L : aj_L) : Prop := ls.size = nL ∧ lv_wf ls ∧ L.length = nL ∧ ∀ (i : Nat) (v : Value), L[i]? = some (some v) → ls[i]? = some (.val (aj_cv f v))
theorem aj_lr.has {f : Nat → Nat} {ls : Array Slot} {nL : Nat} {L : aj_L} (h : aj_lr f ls nL L) : lv_has ls nL (aj_as f L) := by
  refine ⟨h.1, h.2.1, fun q hq => ?_⟩
  obtain ⟨i, w⟩ := q
  obtain ⟨v, h1, h2⟩ := aj_as_mem.mp hq
  rw [h2]
  exact h.2.2.2 _ _ h1
theorem aj_lr.of {f : Nat → Nat} {ls : Array Slot} {nL : Nat} {L : aj_L} {l : List (Nat × Value)} (h : lv_has ls nL l) (hL : L.length = nL) (hm : ∀ (i : Nat) (v : Value), L[i]? = some (some v) → (i, aj_cv f v) ∈ l) : aj_lr f ls nL L :=
  ⟨h.1, h.2.1, hL, fun i v hv => h.2.2 (i, aj_cv f v) (hm i v hv)⟩
theorem aj_st1_len : ∀ (L : aj_L) (i : Nat) (v : Value), (aj_st1 L i v).length = L.length
  | [], _, _ => rfl
  | _ :: _, 0, _ => rfl
  | _ :: L, i + 1, v => by simp only [aj_st1, List.length_cons, aj_st1_len L i v]
theorem aj_st1_get : ∀ (L : aj_L) (i : Nat) (v : Value) (j : Nat), (aj_st1 L i v)[j]? = some (some v) ∧ j = i ∨ j ≠ i ∧ (aj_st1 L i v)[j]? = (L[j]?).map (fun a => if j + 1 = i then aj_clr a else a) ∨ j = i ∧ L.length ≤ i ∧ (aj_st1 L i v)[j]? = none
  | [], i, v, j => by
    by_cases h : j = i
    · exact Or.inr (Or.inr ⟨h, Nat.zero_le _, by simp [aj_st1]⟩)
    · exact Or.inr (Or.inl ⟨h, by simp [aj_st1]⟩)
  | a :: L, 0, v, 0 => Or.inl ⟨rfl, rfl⟩
  | a :: L, 0, v, j + 1 => Or.inr (Or.inl ⟨by omega, by simp [aj_st1]⟩)
  | a :: L, i + 1, v, 0 => by
    refine Or.inr (Or.inl ⟨by omega, ?_⟩)
    cases i with
    | zero => simp [aj_st1, aj_cl0]
    | succ i => simp [aj_st1, aj_cl0]
  | a :: L, i + 1, v, j + 1 => by
    have e1 : (aj_st1 (a :: L) (i + 1) v)[j + 1]? = (aj_st1 L i v)[j]? := by simp [aj_st1]
    have e2 : (a :: L)[j + 1]? = L[j]? := by simp
    rcases aj_st1_get L i v j with ⟨h1, h2⟩ | ⟨h1, h2⟩ | ⟨h1, h2, h3⟩
    · exact Or.inl ⟨by rw [e1]; exact h1, by omega⟩
    · refine Or.inr (Or.inl ⟨by omega, ?_⟩)
      rw [e1, e2, h2]
      have : (j + 1 + 1 = i + 1) = (j + 1 = i) := by simp
      simp only [this]
    · exact Or.inr (Or.inr ⟨by omega, by simp only [List.length_cons]; omega, by rw [e1]; exact h3⟩)
theorem aj_clr_val {a : Option Value} {v : Value} (h : aj_clr a = some v) : a = some v ∧ v.category = 1 := by
  unfold aj_clr at h
  split at h
  · cases h
  · cases h
  · next x h1 h2 =>
    subst h
    refine ⟨rfl, ?_⟩
    cases v with
    | long x => exact absurd rfl (h1 x)
    | double x => exact absurd rfl (h2 x)
    | _ => rfl
theorem aj_nn_len : ∀ (L : aj_L) (i : Nat), (aj_nn L i).length = L.length
  | [], _ => rfl
  | _ :: _, 0 => rfl
  | _ :: L, i + 1 => by simp only [aj_nn, List.length_cons, aj_nn_len L i]
theorem aj_nn_get : ∀ (L : aj_L) (i j : Nat) (v : Value), (aj_nn L i)[j]? = some (some v) → j ≠ i ∧ L[j]? = some (some v)
  | [], i, j, v, h => by simp [aj_nn] at h
  | a :: L, 0, 0, v, h => by simp [aj_nn] at h
  | a :: L, 0, j + 1, v, h => ⟨by omega, by simpa [aj_nn] using h⟩
  | a :: L, i + 1, 0, v, h => ⟨by omega, by simpa [aj_nn] using h⟩
  | a :: L, i + 1, j + 1, v, h => by
    have := aj_nn_get L i j v (by simpa [aj_nn] using h)
    exact ⟨by omega, by simpa using this.2⟩
theorem aj_st1_val {L : aj_L} {i j : Nat} {v w : Value} (h : (aj_st1 L i v)[j]? = some (some w)) : (j = i ∧ w = v) ∨ (j ≠ i ∧ L[j]? = some (some w) ∧ (j + 1 = i → w.category = 1)) := by
  rcases aj_st1_get L i v j with ⟨h1, h2⟩ | ⟨h1, h2⟩ | ⟨h1, h2, h3⟩
  · rw [h1] at h
    exact Or.inl ⟨h2, by simpa using h.symm⟩
  · rw [h2] at h
    refine Or.inr ⟨h1, ?_⟩
    cases hL : L[j]? with
    | none => rw [hL] at h; simp at h
    | some a =>
      rw [hL] at h
      simp only [Option.map_some, Option.some.injEq] at h
      by_cases hji : j + 1 = i
      · rw [if_pos hji] at h
        have := aj_clr_val h
        exact ⟨by rw [this.1], fun _ => this.2⟩
      · rw [if_neg hji] at h
        exact ⟨by rw [h], fun q => absurd q hji⟩
  · rw [h3] at h; cases h
theorem aj_lr.st1 {f : Nat → Nat} {ls ls' : Array Slot} {nL i : Nat} {L : aj_L} {v : Value} (hl : aj_lr f ls nL L) (h' : lv_has ls' nL ((i, aj_cv f v) :: (aj_as f L).filter (fun q => !(q.1 == i) && !(q.1 + 1 == i && q.2.category == 2)))) : aj_lr f ls' nL (aj_st1 L i v) := by
  refine aj_lr.of h' (by rw [aj_st1_len]; exact hl.2.2.1) (fun j w hw => ?_)
  rcases aj_st1_val hw with ⟨rfl, rfl⟩ | ⟨h1, h2, h3⟩
  · exact List.mem_cons_self
  · refine List.mem_cons_of_mem _ (List.mem_filter.mpr ⟨aj_as_mem.mpr ⟨w, h2, rfl⟩, ?_⟩)
    by_cases hji : j + 1 = i
    · simp [h1, hji, aj_cv_cat, h3 hji]
    · simp [h1, hji]
theorem aj_lr.st2 {f : Nat → Nat} {ls ls' : Array Slot} {nL i : Nat} {L : aj_L} {v : Value} (hl : aj_lr f ls nL L) (h' : lv_has ls' nL ((i, aj_cv f v) :: (aj_as f L).filter (fun q => !(q.1 == i) && (!(q.1 == i + 1) && !(q.1 + 1 == i && q.2.category == 2))))) : aj_lr f ls' nL (aj_st2 L i v) := by
  refine aj_lr.of h' (by unfold aj_st2; rw [aj_nn_len, aj_st1_len]; exact hl.2.2.1) (fun j w hw => ?_)
  obtain ⟨g1, g2⟩ := aj_nn_get _ _ _ _ hw
  rcases aj_st1_val g2 with ⟨rfl, rfl⟩ | ⟨h1, h2, h3⟩
  · exact List.mem_cons_self
  · refine List.mem_cons_of_mem _ (List.mem_filter.mpr ⟨aj_as_mem.mpr ⟨w, h2, rfl⟩, ?_⟩)
    by_cases hji : j + 1 = i
    · simp [h1, g1, hji, aj_cv_cat, h3 hji]
    · simp [h1, g1, hji]
/-! the frame at hand -/
def aj_fx (D : va_G) (kA : Nat → ClassId) (bs aS : Nat) (p : Program) (s : State) (m : MethodId) (args : Array Value) (c : Code) (nL oc : Nat) (cc : ByteArray) : Prop :=
  p.tables.exec = Jvm.exec ∧ c.code = cc ∧ c.maxLocals = nL ∧ s.vm.findClass (aj_nm oc) = some m.cls ∧ (∀ w ∈ aj_ws, w.before args s = true) ∧ aj_kw D kA bs aS s s.heap ∧ bs ≤ s.heap.size
def aj_jm (D : va_G) (kA : Nat → ClassId) (bs aS b : Nat) (p : Program) (l : Launch) (e : Env) (R : Room) (s : State) (m : MethodId) (args : Array Value) (below : List Frame) (meth : Method) (c : Code) (Q : State → Prop) (nL mc ms : Nat) : aj_J := fun pc L st Z I G C =>
  C.1 ≤ mc → C.2 ≤ ms → ∀ (ls : Array Slot) (H : Heap) (locs : List Loc), aj_lr (aj_ca bs aS b) ls nL L → aj_in D kA bs aS b Z I G s.heap H locs → W p l e R s m args below meth c H locs C.1 C.2 Q (F0 m pc ls (st.map (aj_cv (aj_ca bs aS b))))
