section AJF
variable {D : va_G} {kA : Nat → ClassId} {bs aS b : Nat} {p : Program} {l : Launch} {e : Env} {R : Room} {s : State} {m : MethodId} {args : Array Value} {below : List Frame} {meth : Method} {c : Code} {Q : State → Prop} {nL oc mc ms : Nat} {cc : ByteArray} {H : Heap} {locs : List Loc} {cells slots pc : Nat} {ls : Array Slot} {rest : List Value} {tys : List (ClassId × FieldType)}
theorem aj_Wget (hx : p.tables.exec = Jvm.exec) (hb : c.code = cc) (hown : s.vm.findClass (aj_nm oc) = some m.cls) (hts : ∀ w ∈ aj_ws, w.before args s = true) (hK : va_K D aj_cl tys s) (hnw : ∀ w ∈ aj_nw, va_Nw w s) {i ci k t n a : Nat} {V : Nat → Value} {r : vw_C} (he : (oc, i, ci, k, t, n) ∈ aj_lfs) (hr : aj_cl[ci]? = some r) (hO : t_OB a (D.1 ci) r.2.2 (D.2 ci) H V) (hd : decode cc pc = .ok (.getfield i, 3))
    (kk : aj_dc (r.2.1 k).2.2.1 = t → W p l e R s m args below meth c H locs cells slots Q (F0 m (pc + 3) ls (V k :: rest))) : W p l e R s m args below meth c H locs cells slots Q (F0 m pc ls (.ref a :: rest)) := by
  obtain ⟨C, T, N, hc, hk, hty, hlink⟩ := aj_lf_spec he
  have hrr : r = (C, T, N) := Option.some.inj (hr.symm.trans hc)
  subst hrr
  obtain ⟨hin, hpt, hdcl, -, -, hnm⟩ := aj_cl_spec hc
  obtain ⟨cell, q1, q2, q3, q4⟩ := hO
  obtain ⟨hS, hfc, kC, hkC, hkind⟩ := hK.1 ci _ hc
  obtain ⟨cf, kf, fi, f, hi, hsl⟩ := hS k hk
  have hst := (u_facts hfc hkC (u_lays hts hin hk) hi).1
  have hi2 : s.fieldFound? C (T k).2.1 (T k).2.2.1 = some (cf, kf, fi, f) := by rw [← hdcl k hk]; exact hi
  rcases hlink with ⟨-, h1⟩ | ⟨-, h1, -⟩
  · exact va_Wgetf hx hb hown (va_Nw.use rfl (hnw _ h1)) hi2 hst q1 (by rw [q3]; exact fun h => by cases h) (v := V k) (by rw [hsl]; exact q4 k hk) rfl rfl hd (kk hty)
  · exact W.getf hx hb hown (hts _ h1) hi2 hst q1 (by rw [q3]; exact fun h => by cases h) (v := V k) (by rw [hsl]; exact q4 k hk) rfl rfl hd (kk hty)
theorem aj_Wput (hx : p.tables.exec = Jvm.exec) (hb : c.code = cc) (hown : s.vm.findClass (aj_nm oc) = some m.cls) (hts : ∀ w ∈ aj_ws, w.before args s = true) (hK : va_K D aj_cl tys s) {i ci k t n a : Nat} {V : Nat → Value} {r : vw_C} {v : Value} (he : (oc, i, ci, k, t, n) ∈ aj_lfs) (hn : n = 0 ∨ (n = 1 ∧ meth.name = "<init>")) (hr : aj_cl[ci]? = some r) (hO : t_OB a (D.1 ci) r.2.2 (D.2 ci) H V) (hnr : aj_dc (r.2.1 k).2.2.1 = t → (4 ≤ t → aj_rk (aj_ty (r.2.1 k).2.2.1) = true) → narrow (aj_ty (r.2.1 k).2.2.1) v = v ∧ fits (aj_ty (r.2.1 k).2.2.1) v = true) (hd : decode cc pc = .ok (.putfield i, 3))
    (kk : ∀ (H1 : Heap) (j : Nat), t_OB a (D.1 ci) r.2.2 (D.2 ci) H1 (updV V k v) → H1.size = H.size → (∀ q, q ≠ a → H1[q]? = H[q]?) → aj_dc (r.2.1 k).2.2.1 = t → W p l e R s m args below meth c H1 (locs ++ [⟨a, j⟩]) cells slots Q (F0 m (pc + 3) ls rest)) : W p l e R s m args below meth c H locs cells slots Q (F0 m pc ls (v :: .ref a :: rest)) := by
  obtain ⟨C, T, N, hc, hk, hty, hlink⟩ := aj_lf_spec he
  have hrr : r = (C, T, N) := Option.some.inj (hr.symm.trans hc)
  subst hrr
  obtain ⟨hin, hpt, hdcl, -, hrk, hnm⟩ := aj_cl_spec hc
  have hap := va_apart (own := aj_nm oc) hts hin (fun k => aj_ty (T k).2.2.1) hpt hnm hK hc
  obtain ⟨cell, q1, q2, q3, q4⟩ := hO
  obtain ⟨hS, hfc, kC, hkC, hkind⟩ := hK.1 ci _ hc
  obtain ⟨cf, kf, fi, f, hi, hsl⟩ := hS k hk
  have hst := (u_facts hfc hkC (u_lays hts hin hk) hi).1
  have hi2 : s.fieldFound? C (T k).2.1 (T k).2.2.1 = some (cf, kf, fi, f) := by rw [← hdcl k hk]; exact hi
  obtain ⟨hn1, hn2⟩ := hnr hty (fun h4 => hrk k hk (by rw [hty]; exact h4))
  have hlay := hts _ (hin _ (u_in_lay hk))
  rcases hlink with ⟨h0, -⟩ | ⟨-, h1, h2, h3⟩
  · omega
  · rcases hn with hn | ⟨hn, hini⟩
    · subst hn
      unfold u_lay at hlay
      rw [if_neg (by rw [h2]; decide)] at hlay
      have h6 := u_store hfc hkC hkind hlay hi (hpt k hk) hn1 hn2
      refine W.putK hx hb (f := f) ⟨hown, hts _ h1, ⟨_, _, _, hi2⟩, hst⟩ (by rw [q2]; exact h6) q1 q3 (by rw [hsl]; exact k2_hasslot (q4 k hk)) rfl rfl hd fun H1 e1 e2 e3 => ?_
      rw [hsl] at e1
      exact kk H1 _ ⟨_, e1, q2, q3, t_set q4 hap hk v⟩ e2 e3 hty
    · subst hn
      have h3' : aj_nm oc = C := by rcases h3 with h3 | h3; exact absurd h3 (by decide); exact h3
      unfold u_lay at hlay
      rw [if_pos (by rw [h2]; decide)] at hlay
      have hcf : m.cls = cf := by
        obtain ⟨_, _, c', _, _, _, -, -, hf', -, -, -, hown2, -⟩ := Cond.laysFinal_spec hlay
        have e1 : c' = cf := by have := hi.symm.trans hf'; simp at this; exact this.1.symm
        rw [hdcl k hk, ← h3'] at hown2
        rw [← e1]; exact Option.some.inj (hown.symm.trans hown2)
      have h6 := u_fits hfc hkC hkind (Or.inr hlay) hi (hpt k hk) hn1 hn2
      refine W.putFinK hx hb hown (hts _ h1) hi2 hst hcf hini (by rw [q2]; exact h6) q1 q3 (by rw [hsl]; exact k2_hasslot (q4 k hk)) rfl rfl hd fun H1 e1 e2 e3 => ?_
      rw [hsl] at e1
      exact kk H1 _ ⟨_, e1, q2, q3, t_set q4 hap hk v⟩ e2 e3 hty
theorem aj_S5 {ini : Bool} (F : aj_fx D kA bs aS p s m args c nL oc cc) (hini : ini = true → meth.name = "<init>") : aj_C5 oc cc ini (aj_jm D kA bs aS b p l e R s m args below meth c Q nL mc ms) := by
  obtain ⟨hx, hb, hml, hown, hts, hkw, hbs⟩ := F
  refine ⟨?_, ?_, ?_, ?_, ?_, ?_⟩
  · intro pc L st Z I G C i ci k t n o p0 p1 p2 p3 p4 g1 g2 ls H locs hl hi
    obtain ⟨r, hr, hO⟩ := aj_ck_obj (hi.1.2.2 o) p3
    refine aj_Wget hx hb hown hts hkw.1 hkw.2.1 p0 hr hO p2 (fun ht => ?_)
    have h1 : t ≠ 1 ∧ t < 4 := by
      unfold aj_ity at p1
      simp only [Bool.or_eq_true, beq_iff_eq] at p1
      omega
    rw [ht, aj_tv_int h1.1 h1.2]
    exact p4 g1 g2 ls H locs hl hi
  · intro pc L st Z I G C i ci k t n o v p0 p1 p2 p3 p4 p5 g1 g2 ls H locs hl hi
    obtain ⟨r, hr, hO⟩ := aj_ck_obj (hi.1.2.2 o) p3
    refine aj_Wget hx hb hown hts hkw.1 hkw.2.1 p0 hr hO p2 (fun ht => ?_)
    rw [ht, aj_tv_ref (by simpa [aj_rty] using p1), p4]
    exact p5 g1 g2 ls H locs hl hi
  · intro pc L st Z I G C i ci k n o x p0 p1 p2 p3 p4 g1 g2 ls H locs hl hi
    obtain ⟨r, hr, hO⟩ := aj_ck_obj (hi.1.2.2 o) p3
    refine aj_Wput hx hb hown hts hkw.1 p0 (Or.inl p1) hr hO (fun ht _ => ?_) p2 (fun H1 j hO1 hz hq ht => p4 g1 g2 ls H1 _ hl (aj_in_set hi (by rw [p3]; exact fun q => by cases q) rfl rfl (fun q hqo t k => ?_) hz hq (aj_ck_of_obj p3 ⟨r, hr, hO1.to (fun q hqN => ?_)⟩)))
    · rw [aj_dc0 ht, aj_tyI]
      exact ⟨rfl, rfl⟩
    · unfold aj_tv
      rw [aj_u2_ne hqo]
    · unfold updV
      by_cases hqk : q = k
      · rw [if_pos hqk, hqk, ht, aj_tv_int (by decide) (by decide), aj_u2_eq, aj_up_eq]
      · rw [if_neg hqk]
        unfold aj_tv
        rw [aj_u2_eq, aj_up_ne hqk]
  · intro pc L st Z I G C i ci k n o x p0 p1 px p2 p3 p4 g1 g2 ls H locs hl hi
    obtain ⟨r, hr, hO⟩ := aj_ck_obj (hi.1.2.2 o) p3
    refine aj_Wput hx hb hown hts hkw.1 p0 (Or.inl p1) hr hO (fun ht _ => ?_) p2 (fun H1 j hO1 hz hq ht => p4 g1 g2 ls H1 _ hl (aj_in_set hi (by rw [p3]; exact fun q => by cases q) rfl rfl (fun q hqo t k => ?_) hz hq (aj_ck_of_obj p3 ⟨r, hr, hO1.to (fun q hqN => ?_)⟩)))
    · rw [aj_dc3 ht, aj_tyZ]
      rcases px with rfl | rfl <;> exact ⟨rfl, rfl⟩
    · unfold aj_tv
      rw [aj_u2_ne hqo]
    · unfold updV
      by_cases hqk : q = k
      · rw [if_pos hqk, hqk, ht, aj_tv_int (by decide) (by decide), aj_u2_eq, aj_up_eq]
      · rw [if_neg hqk]
        unfold aj_tv
        rw [aj_u2_eq, aj_up_ne hqk]
  · intro pc L st Z I G C i ci k t n o v p0 p1 p2 pv p3 p4 p5 g1 g2 ls H locs hl hi
    obtain ⟨r, hr, hO⟩ := aj_ck_obj (hi.1.2.2 o) p4
    have h4 : 4 ≤ t := by simpa [aj_rty] using p2
    refine aj_Wput hx hb hown hts hkw.1 p0 (by rcases p1 with p1 | ⟨p1, p1'⟩; exact Or.inl p1; exact Or.inr ⟨p1, hini p1'⟩) hr hO (fun ht hrk => ?_) p3 (fun H1 j hO1 hz hq ht => p5 g1 g2 ls H1 _ hl (aj_in_set hi (by rw [p4]; exact fun q => by cases q) rfl rfl (fun q hqo t k => ?_) hz hq (aj_ck_of_obj p4 ⟨r, hr, hO1.to (fun q hqN => ?_)⟩)))
    · have hk := hrk h4
      generalize aj_ty (r.2.1 k).2.2.1 = ty at hk ⊢
      rcases pv with rfl | ⟨a, rfl⟩ <;> cases ty <;> first | exact ⟨rfl, rfl⟩ | (simp [aj_rk] at hk)
    · unfold aj_tv
      dsimp only
      rw [aj_u2_ne hqo]
    · unfold updV
      by_cases hqk : q = k
      · rw [if_pos hqk, hqk, ht, aj_tv_ref h4]
        dsimp only
        rw [aj_u2_eq, aj_up_eq]
      · rw [if_neg hqk]
        unfold aj_tv
        dsimp only
        rw [aj_u2_eq, aj_up_ne hqk]
  · intro pc L st Z I G C i p0 p1 p2 g1 g2 ls H locs hl hi
    exact va_gets hx hb hkw.2.2.2.1 hi.2 hown (hts _ (aj_okls _ p0)) (fun _ h => h) p1 (p2 g1 g2 ls H locs hl hi)
end AJF
