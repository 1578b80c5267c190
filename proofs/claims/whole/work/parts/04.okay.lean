def aj_ty (d : String) : FieldType := (parseFieldDescriptor d).getD .int
def aj_rk : FieldType → Bool
  | .object _ => true
  | .array _ => true
  | _ => false
def aj_df (t : Nat) : Value := if t = 1 then .long 0 else if t < 4 then .int 0 else .null
/-- a class of the table: its fields' words are there, their types are known, their names differ -/
def aj_okc (r : vw_C) : Bool := (u_ws r.1 r.2.1 r.2.2).all (fun w => decide (w ∈ aj_wo)) &&
  (List.range r.2.2).all (fun k => (parseFieldDescriptor (r.2.1 k).2.2.1).isSome && decide ((r.2.1 k).1 = r.1) && decide (defaultValue (aj_ty (r.2.1 k).2.2.1) = aj_df (aj_dc (r.2.1 k).2.2.1)) && (decide (aj_dc (r.2.1 k).2.2.1 < 4) || aj_rk (aj_ty (r.2.1 k).2.2.1))) &&
  (List.range r.2.2).all (fun a => (List.range r.2.2).all (fun b => a == b || !decide ((r.2.1 a).2.1 = (r.2.1 b).2.1)))
/-- a link to a field: own class, pool number, class, field, type, kind (0 plain, 1 final, 2 a nest mate's) -/
def aj_okf (e : Nat × Nat × Nat × Nat × Nat × Nat) : Bool := match aj_cl[e.2.2.1]? with
  | none => false
  | some r => decide (e.2.2.2.1 < r.2.2) && decide (aj_dc (r.2.1 e.2.2.2.1).2.2.1 = e.2.2.2.2.1) &&
    (if e.2.2.2.2.2 = 2 then decide (Cond.fieldLinkNest (aj_nm e.1) e.2.1 r.1 (r.2.1 e.2.2.2.1).2.1 (r.2.1 e.2.2.2.1).2.2.1 aj_host ∈ aj_nw)
     else decide (Cond.fieldLink (aj_nm e.1) e.2.1 r.1 (r.2.1 e.2.2.2.1).2.1 (r.2.1 e.2.2.2.1).2.2.1 ∈ aj_wo) && decide ((r.2.1 e.2.2.2.1).2.2.2 = decide (e.2.2.2.2.2 = 1)) && (decide (e.2.2.2.2.2 = 0) || decide (aj_nm e.1 = r.1)))
/-! what the tables say, by one computation each -/
theorem aj_wo_ws {w : Cond} (h : w ∈ aj_wo) : w ∈ aj_ws := List.mem_append_right _ (List.mem_append_right _ h)
theorem aj_wc_ws {w : Cond} (h : w ∈ aj_wc) : w ∈ aj_ws := List.mem_append_right _ (List.mem_append_left _ h)
theorem aj_ms_ws {y oc nL : Nat} {nm : MethodName} {cc : ByteArray} {rt : Option FieldType} (h : aj_ms[y]? = some (oc, nm, cc, nL, rt)) : Cond.code nm cc nL rt ∈ aj_ws :=
  List.mem_append_left _ (List.mem_map.mpr ⟨_, List.mem_of_getElem? h, rfl⟩)
theorem aj_wcg : aj_wc.all k2_isCode = true := rfl
theorem aj_wog : aj_wo.all goodWord = true := by decide +kernel
theorem aj_good : ∀ w ∈ aj_ws, (w.onTables && w.keeps) = true ∨ ∃ ty, w = .arrayClass ty := by
  intro w hw
  rcases List.mem_append.mp hw with h | h
  · obtain ⟨q, -, rfl⟩ := List.mem_map.mp h
    exact Or.inl rfl
  · rcases List.mem_append.mp h with h | h
    · have := List.all_eq_true.mp aj_wcg w h
      cases w <;> first | (simp [k2_isCode] at this; done) | exact Or.inl rfl
    · exact good_of_word (List.all_eq_true.mp aj_wog w h)
theorem aj_oklc : ∀ q : Nat × Nat × Int32, q ∈ aj_lcs → Cond.constant (aj_nm q.1) q.2.1 q.2.2 ∈ aj_ws := by
  have h : aj_lcs.all (fun q => decide (Cond.constant (aj_nm q.1) q.2.1 q.2.2 ∈ aj_wo)) = true := by decide +kernel
  exact fun q hq => aj_wo_ws (by simpa using List.all_eq_true.mp h q hq)
theorem aj_okll : ∀ q : Nat × Nat × Int64, q ∈ aj_lls → Cond.constantLong (aj_nm q.1) q.2.1 q.2.2 ∈ aj_ws := by
  have h : aj_lls.all (fun q => decide (Cond.constantLong (aj_nm q.1) q.2.1 q.2.2 ∈ aj_wo)) = true := by decide +kernel
  exact fun q hq => aj_wo_ws (by simpa using List.all_eq_true.mp h q hq)
theorem aj_okls : ∀ q : Nat × Nat, q ∈ aj_lss → Cond.fieldLink (aj_nm q.1) q.2 aj_gc aj_gf "[I" ∈ aj_ws := by
  have h : aj_lss.all (fun q => decide (Cond.fieldLink (aj_nm q.1) q.2 aj_gc aj_gf "[I" ∈ aj_wo)) = true := by decide +kernel
  exact fun q hq => aj_wo_ws (by simpa using List.all_eq_true.mp h q hq)
theorem aj_oklo : ∀ q : Nat × Nat, q ∈ aj_los → Cond.methodLink (aj_nm q.1) q.2 objectInit ∈ aj_ws := by
  have h : aj_los.all (fun q => decide (Cond.methodLink (aj_nm q.1) q.2 objectInit ∈ aj_wo)) = true := by decide +kernel
  exact fun q hq => aj_wo_ws (by simpa using List.all_eq_true.mp h q hq)
theorem aj_oko1 : Cond.instanceMethod objectInit ∈ aj_ws := aj_wo_ws (by decide +kernel)
def aj_okn (q : Nat × Nat × Nat × Nat) : Bool := match aj_cl[q.2.2.1]? with
  | none => false
  | some r => decide (r.2.2 = q.2.2.2) && decide (Cond.classLink (aj_nm q.1) q.2.1 r.1 ∈ aj_wo) && decide (Cond.instantiable r.1 q.2.2.2 ∈ aj_wo) && decide (Cond.initialized r.1 ∈ aj_wo)
theorem aj_okns : aj_lns.all aj_okn = true := by decide +kernel
theorem aj_ln_spec {oc i ci n : Nat} (h : (oc, i, ci, n) ∈ aj_lns) : ∃ (C : String) (T : u_T) (N : Nat), aj_cl[ci]? = some (C, T, N) ∧ N = n ∧ Cond.classLink (aj_nm oc) i C ∈ aj_ws ∧ Cond.instantiable C n ∈ aj_ws ∧ Cond.initialized C ∈ aj_ws := by
  have h1 := List.all_eq_true.mp aj_okns _ h
  unfold aj_okn at h1
  dsimp only at h1
  cases hc : aj_cl[ci]? with
  | none => rw [hc] at h1; cases h1
  | some r =>
    rw [hc] at h1
    simp only [Bool.and_eq_true, decide_eq_true_eq] at h1
    exact ⟨r.1, r.2.1, r.2.2, rfl, h1.1.1.1, aj_wo_ws h1.1.1.2, aj_wo_ws h1.1.2, aj_wo_ws h1.2⟩
theorem aj_pa_spec {a : ArrayType} {t : Nat} (h : (a, t) ∈ aj_pas) : t < aj_nt ∧ t < 4 ∧ newarray.typeOf a = aj_at t ∧ Cond.arrayClass (newarray.typeOf a) ∈ aj_ws := by
  have h1 : aj_pas.all (fun q => decide (q.2 < aj_nt) && decide (q.2 < 4) && decide (newarray.typeOf q.1 = aj_at q.2) && decide (Cond.arrayClass (newarray.typeOf q.1) ∈ aj_wo)) = true := by decide +kernel
  have h2 := List.all_eq_true.mp h1 _ h
  simp only [Bool.and_eq_true, decide_eq_true_eq] at h2
  exact ⟨h2.1.1.1, h2.1.1.2, h2.1.2, aj_wo_ws h2.2⟩
def aj_oka (q : Nat × Nat × Nat) : Bool := decide (q.2.2 < aj_nt) && decide (4 ≤ q.2.2) && (match aj_at q.2.2 with
  | .object C => decide (C ∈ aj_ao) && decide (Cond.classLink (aj_nm q.1) q.2.1 C ∈ aj_wo)
  | _ => false)
theorem aj_okas : aj_las.all aj_oka = true := by decide +kernel
theorem aj_la_spec {oc i t : Nat} (h : (oc, i, t) ∈ aj_las) : ∃ C : String, C ∈ aj_ao ∧ aj_at t = .object C ∧ t < aj_nt ∧ 4 ≤ t ∧ Cond.classLink (aj_nm oc) i C ∈ aj_ws := by
  have h1 := List.all_eq_true.mp aj_okas _ h
  unfold aj_oka at h1
  dsimp only at h1
  simp only [Bool.and_eq_true, decide_eq_true_eq] at h1
  obtain ⟨⟨a1, a2⟩, a3⟩ := h1
  split at a3
  next C hC =>
    simp only [Bool.and_eq_true, decide_eq_true_eq] at a3
    exact ⟨C, a3.1, hC, a1, a2, aj_wo_ws a3.2⟩
  next => cases a3
theorem aj_cb (ty : FieldType) : componentBytes ty ≤ 8 := by cases ty <;> exact Nat.le_of_ble_eq_true rfl
theorem aj_RA_prim {s : State} {c : ClassId} {t : Nat} (h4 : t < 4) (h : va_RA s c (aj_at t)) : s.vm.findClass ("[" ++ (aj_at t).toString) = some c := by
  rcases (show t = 0 ∨ t = 1 ∨ t = 2 ∨ t = 3 by omega) with rfl | rfl | rfl | rfl <;> exact h
theorem aj_prim_df {t : Nat} (h4 : t < 4) : defaultValue (aj_at t) = aj_df t := by
  rcases (show t = 0 ∨ t = 1 ∨ t = 2 ∨ t = 3 by omega) with rfl | rfl | rfl | rfl <;> rfl
/-- Math.min and Math.max -/
def aj_okx (q : Nat × Nat × Nat) : Bool := match q.2.2 with
  | 0 => decide (Cond.methodLink (aj_nm q.1) q.2.1 Lib.Math.min.name ∈ aj_wo) && decide (Cond.static Lib.Math.min.name ∈ aj_wo) && decide (Cond.initialized "java/lang/Math" ∈ aj_wo)
  | 1 => decide (Cond.methodLink (aj_nm q.1) q.2.1 Lib.Math.max.name ∈ aj_wo) && decide (Cond.static Lib.Math.max.name ∈ aj_wo) && decide (Cond.initialized "java/lang/Math" ∈ aj_wo)
  | _ => decide (Cond.methodLink (aj_nm q.1) q.2.1 Lib.MathLoose.min_long.x ∈ aj_wo) && decide (Cond.static Lib.MathLoose.min_long.x ∈ aj_wo) && decide (Cond.initialized "java/lang/Math" ∈ aj_wo)
theorem aj_okxs : aj_lxs.all aj_okx = true := by decide +kernel
theorem aj_x0 {oc i : Nat} (h : (oc, i, 0) ∈ aj_lxs) : Cond.methodLink (aj_nm oc) i Lib.Math.min.name ∈ aj_ws ∧ Cond.static Lib.Math.min.name ∈ aj_ws ∧ Cond.initialized "java/lang/Math" ∈ aj_ws ∧ Cond.code Lib.Math.min.name Lib.Math.min.code 2 (some .int) ∈ aj_ws := by
  have h1 := List.all_eq_true.mp aj_okxs _ h
  simp only [aj_okx, Bool.and_eq_true, decide_eq_true_eq] at h1
  exact ⟨aj_wo_ws h1.1.1, aj_wo_ws h1.1.2, aj_wo_ws h1.2, aj_wc_ws (List.mem_of_getElem? (i := 1) rfl)⟩
theorem aj_x1 {oc i : Nat} (h : (oc, i, 1) ∈ aj_lxs) : Cond.methodLink (aj_nm oc) i Lib.Math.max.name ∈ aj_ws ∧ Cond.static Lib.Math.max.name ∈ aj_ws ∧ Cond.initialized "java/lang/Math" ∈ aj_ws ∧ Cond.code Lib.Math.max.name Lib.Math.max.code 2 (some .int) ∈ aj_ws := by
  have h1 := List.all_eq_true.mp aj_okxs _ h
  simp only [aj_okx, Bool.and_eq_true, decide_eq_true_eq] at h1
  exact ⟨aj_wo_ws h1.1.1, aj_wo_ws h1.1.2, aj_wo_ws h1.2, aj_wc_ws (List.mem_of_getElem? (i := 2) rfl)⟩
theorem aj_x2 {oc i : Nat} (h : (oc, i, 2) ∈ aj_lxs) : Cond.methodLink (aj_nm oc) i Lib.MathLoose.min_long.x ∈ aj_ws ∧ Cond.static Lib.MathLoose.min_long.x ∈ aj_ws ∧ Cond.initialized "java/lang/Math" ∈ aj_ws ∧ Cond.code Lib.MathLoose.min_long.x Lib.MathLoose.min_long.code 4 (some .long) ∈ aj_ws := by
  have h1 := List.all_eq_true.mp aj_okxs _ h
  simp only [aj_okx, Bool.and_eq_true, decide_eq_true_eq] at h1
  exact ⟨aj_wo_ws h1.1.1, aj_wo_ws h1.1.2, aj_wo_ws h1.2, aj_wc_ws (List.mem_of_getElem? (i := 3) rfl)⟩
theorem aj_oko2 : Cond.code objectInit ⟨#[0xb1]⟩ 1 none ∈ aj_ws := aj_wc_ws (List.mem_of_getElem? (i := 0) rfl)
/-- a word by its place -/
def aj_has (q : Nat × Nat) (w : Cond) : Bool := !k2_isCode w && goodWord w && (match (aj_run q.1)[q.2]? with
  | some v => decide (v = w)
  | none => false)
theorem aj_has_wo {q : Nat × Nat} {w : Cond} (h : aj_has q w = true) : w ∈ aj_ws := by
  unfold aj_has at h
  simp only [Bool.and_eq_true] at h
  obtain ⟨⟨h1, h2⟩, h3⟩ := h
  split at h3
  next v hv =>
    have hvw : v = w := by simpa using h3
    subst hvw
    exact aj_wo_ws (List.mem_filter.mpr ⟨aj_run_in _ _ (List.mem_of_getElem? hv), by rw [Bool.and_eq_true]; exact ⟨h1, h2⟩⟩)
  next => cases h3
theorem aj_zip {α β : Type} {l : List α} {p : List β} (h : l.length ≤ p.length) {e : α} {i : Nat} (he : l[i]? = some e) : ∃ q, p[i]? = some q ∧ (e, q) ∈ l.zip p := by
  have hi : i < p.length := Nat.lt_of_lt_of_le (List.getElem?_eq_some_iff.mp he).1 h
  exact ⟨p[i], List.getElem?_eq_getElem hi, List.mem_of_getElem? (i := i) (List.getElem?_zip_eq_some.mpr ⟨he, List.getElem?_eq_getElem hi⟩)⟩
/-- a method: its kind (0 virtual, 1 static, 2 a constructor), the places of its words -/
def aj_okq (z : Nat × MethodName × ByteArray × Nat × Option FieldType) (k : Nat × List (Nat × Nat)) : Bool :=
  decide (z.2.2.2.1 ≤ 18) && decide (z.2.1.cls ≠ "java/lang/invoke/MethodHandle") && decide (z.2.1.cls ≠ "java/lang/invoke/VarHandle") && aj_has (k.2.getD 0 (0, 0)) (Cond.initialized z.2.1.cls) &&
    (if k.1 = 0 then aj_has (k.2.getD 1 (0, 0)) (Cond.instanceMethod z.2.1) && aj_has (k.2.getD 2 (0, 0)) (Cond.selects z.2.1.cls z.2.1 z.2.1)
     else if k.1 = 1 then aj_has (k.2.getD 1 (0, 0)) (Cond.static z.2.1) else decide (z.2.1.name = "<init>") && aj_has (k.2.getD 1 (0, 0)) (Cond.instanceMethod z.2.1) && decide (z.2.2.2.2 = none))
theorem aj_okqs : (aj_ms.zip aj_mk).all (fun q => aj_okq q.1 q.2) = true := by decide +kernel
/-- a link to a method: own class, pool number, method, kind, receiver's class, arguments, 1 if a nest mate's -/
def aj_okm (q : Nat × Nat × Nat × Nat × Nat × Nat × Nat) (ps : Nat × Nat) : Bool := match aj_ms[q.2.2.1]?, aj_mk[q.2.2.1]? with
  | some z, some k => decide (q.2.2.2.1 = k.1) && decide ((parseMethodDescriptor z.2.1.desc).map (fun d => d.parameters.length) = some q.2.2.2.2.2.1) &&
    (if q.2.2.2.2.2.2 = 1 then decide (Cond.methodLinkNest (aj_nm q.1) q.2.1 z.2.1 aj_host ∈ aj_nw) else aj_has ps (Cond.methodLink (aj_nm q.1) q.2.1 z.2.1)) &&
    (decide (q.2.2.2.1 ≠ 0) || decide ((aj_cl[q.2.2.2.2.1]?).map (fun r => r.1) = some z.2.1.cls))
  | _, _ => false
theorem aj_okms : (aj_lms.zip aj_lmp).all (fun q => aj_okm q.1 q.2) = true := by decide +kernel
theorem aj_lm_spec {oc i y kd ci n h : Nat} (hm : (oc, i, y, kd, ci, n, h) ∈ aj_lms) : ∃ (oc' : Nat) (nm : MethodName) (cc : ByteArray) (nL : Nat) (rt : Option FieldType), aj_ms[y]? = some (oc', nm, cc, nL, rt) ∧ nL ≤ 18 ∧ (nm.cls ≠ "java/lang/invoke/MethodHandle" ∧ nm.cls ≠ "java/lang/invoke/VarHandle" ∧ (parseMethodDescriptor nm.desc).map (fun d => d.parameters.length) = some n) ∧ Cond.initialized nm.cls ∈ aj_ws ∧
    (Cond.methodLinkNest (aj_nm oc) i nm aj_host ∈ aj_nw ∨ Cond.methodLink (aj_nm oc) i nm ∈ aj_ws) ∧ (kd = 0 → Cond.instanceMethod nm ∈ aj_ws ∧ Cond.selects nm.cls nm nm ∈ aj_ws ∧ ∃ r : vw_C, aj_cl[ci]? = some r ∧ r.1 = nm.cls) ∧ (kd = 1 → Cond.static nm ∈ aj_ws) ∧ (kd = 2 → nm.name = "<init>" ∧ Cond.instanceMethod nm ∈ aj_ws ∧ rt = none) := by
  obtain ⟨j, hj⟩ := List.getElem?_of_mem hm
  obtain ⟨ps, -, hz⟩ := aj_zip (p := aj_lmp) (by decide +kernel) hj
  have h1 := List.all_eq_true.mp aj_okms _ hz
  unfold aj_okm at h1
  dsimp only at h1
  cases hc : aj_ms[y]? with
  | none => rw [hc] at h1; cases h1
  | some z =>
    obtain ⟨k, hk, hzk⟩ := aj_zip (p := aj_mk) (by decide +kernel) hc
    rw [hc, hk] at h1
    have h2 := List.all_eq_true.mp aj_okqs _ hzk
    obtain ⟨oc', nm, cc, nL, rt⟩ := z
    unfold aj_okq at h2
    dsimp only at h1 h2
    simp only [Bool.and_eq_true, Bool.or_eq_true, decide_eq_true_eq] at h1 h2
    obtain ⟨⟨⟨b1, b2⟩, b3⟩, b4⟩ := h1
    obtain ⟨⟨⟨⟨a1, a2⟩, a3⟩, a5⟩, a7⟩ := h2
    refine ⟨oc', nm, cc, nL, rt, rfl, a1, ⟨a2, a3, b2⟩, aj_has_wo a5, ?_, fun hk => ?_, fun hk => ?_, fun hk => ?_⟩
    · by_cases hh : h = 1
      · rw [if_pos hh] at b3; exact Or.inl (by simpa using b3)
      · rw [if_neg hh] at b3; exact Or.inr (aj_has_wo b3)
    · rw [if_pos (by omega)] at a7
      simp only [Bool.and_eq_true] at a7
      refine ⟨aj_has_wo a7.1, aj_has_wo a7.2, ?_⟩
      rcases b4 with b4 | b4
      · exact absurd hk b4
      · cases hr : aj_cl[ci]? with
        | none => rw [hr] at b4; cases b4
        | some r => rw [hr] at b4; exact ⟨r, rfl, Option.some.inj b4⟩
    · rw [if_neg (by omega), if_pos (by omega)] at a7
      exact aj_has_wo a7
    · rw [if_neg (by omega), if_neg (by omega)] at a7
      simp only [Bool.and_eq_true, decide_eq_true_eq] at a7
      exact ⟨a7.1.1, aj_has_wo a7.1.2, a7.2⟩
theorem aj_okcs : aj_cl.all aj_okc = true := by decide +kernel
theorem aj_okfs : aj_lfs.all aj_okf = true := by decide +kernel
theorem aj_cl_spec {ci : Nat} {C : String} {T : u_T} {N : Nat} (hc : aj_cl[ci]? = some (C, T, N)) :
    (∀ w ∈ u_ws C T N, w ∈ aj_ws) ∧ (∀ k, k < N → parseFieldDescriptor (T k).2.2.1 = some (aj_ty (T k).2.2.1)) ∧ (∀ k, k < N → (T k).1 = C) ∧ (∀ k, k < N → defaultValue (aj_ty (T k).2.2.1) = aj_df (aj_dc (T k).2.2.1)) ∧ (∀ k, k < N → 4 ≤ aj_dc (T k).2.2.1 → aj_rk (aj_ty (T k).2.2.1) = true) ∧
    (∀ a, a < N → ∀ b, b < N → a ≠ b → (T a).2.1 ≠ (T b).2.1) := by
  have h := List.all_eq_true.mp aj_okcs _ (List.mem_of_getElem? hc)
  unfold aj_okc at h
  simp only [Bool.and_eq_true] at h
  obtain ⟨⟨h1, h2⟩, h3⟩ := h
  have g2 : ∀ k, k < N → ((parseFieldDescriptor (T k).2.2.1).isSome = true ∧ (T k).1 = C) ∧ defaultValue (aj_ty (T k).2.2.1) = aj_df (aj_dc (T k).2.2.1) ∧ (aj_dc (T k).2.2.1 < 4 ∨ aj_rk (aj_ty (T k).2.2.1) = true) := by
    intro k hk
    have := List.all_eq_true.mp h2 k (List.mem_range.mpr hk)
    simp only [Bool.and_eq_true, Bool.or_eq_true, decide_eq_true_eq] at this
    obtain ⟨⟨⟨a1, a2⟩, a3⟩, a4⟩ := this
    exact ⟨⟨a1, a2⟩, a3, a4⟩
  refine ⟨fun w hw => aj_wo_ws (by simpa using List.all_eq_true.mp h1 w hw), fun k hk => ?_, fun k hk => (g2 k hk).1.2, fun k hk => (g2 k hk).2.1, fun k hk h4 => ?_, fun a ha b hb hab => ?_⟩
  · have := (g2 k hk).1.1
    unfold aj_ty
    cases hp : parseFieldDescriptor (T k).2.2.1 with
    | none => rw [hp] at this; cases this
    | some x => rfl
  · rcases (g2 k hk).2.2 with h5 | h5
    · omega
    · exact h5
  · have := List.all_eq_true.mp (List.all_eq_true.mp h3 a (List.mem_range.mpr ha)) b (List.mem_range.mpr hb)
    simp only [Bool.or_eq_true, beq_iff_eq, Bool.not_eq_true', decide_eq_false_iff_not] at this
    rcases this with h5 | h5
    · exact absurd h5 hab
    · exact h5
theorem aj_lf_spec {oc i ci k t n : Nat} (h : (oc, i, ci, k, t, n) ∈ aj_lfs) : ∃ (C : String) (T : u_T) (N : Nat), aj_cl[ci]? = some (C, T, N) ∧ k < N ∧ aj_dc (T k).2.2.1 = t ∧
    ((n = 2 ∧ Cond.fieldLinkNest (aj_nm oc) i C (T k).2.1 (T k).2.2.1 aj_host ∈ aj_nw) ∨ (n ≠ 2 ∧ Cond.fieldLink (aj_nm oc) i C (T k).2.1 (T k).2.2.1 ∈ aj_ws ∧ (T k).2.2.2 = decide (n = 1) ∧ (n = 0 ∨ aj_nm oc = C))) := by
  have h1 := List.all_eq_true.mp aj_okfs _ h
  unfold aj_okf at h1
  dsimp only at h1
  cases hc : aj_cl[ci]? with
  | none => rw [hc] at h1; cases h1
  | some r =>
    rw [hc] at h1
    dsimp only at h1
    simp only [Bool.and_eq_true, decide_eq_true_eq] at h1
    obtain ⟨⟨a1, a2⟩, a3⟩ := h1
    refine ⟨r.1, r.2.1, r.2.2, rfl, a1, a2, ?_⟩
    by_cases hn : n = 2
    · rw [if_pos hn] at a3
      exact Or.inl ⟨hn, by simpa using a3⟩
    · rw [if_neg hn] at a3
      simp only [Bool.and_eq_true, Bool.or_eq_true, decide_eq_true_eq] at a3
      exact Or.inr ⟨hn, aj_wo_ws a3.1.1, a3.1.2, a3.2⟩
theorem aj_u2_ne {α : Type} {f : Nat → Nat → α} {o k q : Nat} {v : α} (h : q ≠ o) : aj_u2 f o k v q = f q := aj_up_ne h
theorem aj_u2_eq {α : Type} {f : Nat → Nat → α} {o k : Nat} {v : α} : aj_u2 f o k v o = va_up (f o) k v := aj_up_eq
theorem aj_dc0 {d : String} (h : aj_dc d = 0) : d = "I" := by
  unfold aj_dc at h
  by_cases h0 : d = "I"
  · exact h0
  · rw [if_neg h0] at h
    repeat (first | (split at h) | omega)
theorem aj_dc3 {d : String} (h : aj_dc d = 3) : d = "Z" := by
  unfold aj_dc at h
  by_cases h0 : d = "Z"
  · exact h0
  · rw [if_neg h0] at h
    repeat (first | (split at h) | omega)
theorem aj_tyI : aj_ty "I" = .int := by decide +kernel
theorem aj_tyZ : aj_ty "Z" = .boolean := by decide +kernel
