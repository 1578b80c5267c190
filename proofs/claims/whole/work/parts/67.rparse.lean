/-! read: the way through the boxes, one step at a time -/
abbrev r_ps : Type := Nat × (Nat → Nat) × (Nat → Nat) × (Bool × Bool × Nat × Nat) × Nat × Nat × (Nat → Option Nat) × (Nat → Nat → Option (Nat × Nat × Nat)) × (Nat → Bool)
abbrev ps_lv (s : r_ps) : Nat := s.1
abbrev ps_hm (s : r_ps) : Nat → Nat := s.2.1
abbrev ps_en (s : r_ps) : Nat → Nat := s.2.2.1
abbrev ps_m (s : r_ps) : Bool × Bool × Nat × Nat := s.2.2.2.1
abbrev ps_fd (s : r_ps) : Nat := s.2.2.2.2.1
abbrev ps_p (s : r_ps) : Nat := s.2.2.2.2.2.1
abbrev ps_sb (s : r_ps) : Nat → Option Nat := s.2.2.2.2.2.2.1
abbrev ps_tb (s : r_ps) : Nat → Nat → Option (Nat × Nat × Nat) := s.2.2.2.2.2.2.2.1
abbrev ps_wd (s : r_ps) : Nat → Bool := s.2.2.2.2.2.2.2.2
def r_tab (ty : Int32) : Option (Nat × Bool) :=
  if ty = 1668232756 then some (3, true) else if ty = 1937007471 then some (3, false) else if ty = 1937011555 then some (1, false) else if ty = 1937011578 then some (2, false) else if ty = 1937011827 then some (0, false) else none
theorem r_tab_b {ty : Int32} {k : Nat} {w : Bool} (h : r_tab ty = some (k, w)) : k < 4 ∧ ty = r_ty k w := by
  unfold r_tab at h
  split at h
  · cases h; exact ⟨by decide, by assumption⟩
  · split at h
    · cases h; exact ⟨by decide, by assumption⟩
    · split at h
      · cases h; exact ⟨by decide, by assumption⟩
      · split at h
        · cases h; exact ⟨by decide, by assumption⟩
        · split at h
          · cases h; exact ⟨by decide, by assumption⟩
          · cases h
/-- the box at p is kept, if it is looked for; none: there are enough of its kind -/
def r_note (s : r_ps) (ty : Int32) (ct e : Nat) : Option r_ps :=
  if ps_lv s = 0 then
    if ty = 1836019574 then (if (ps_m s).1 = true then none else some (s.1, s.2.1, s.2.2.1, (true, (ps_m s).2), s.2.2.2.2))
    else if ty = 1835295092 then (if (ps_m s).2.1 = true then none else some (s.1, s.2.1, s.2.2.1, ((ps_m s).1, true, ct, e), s.2.2.2.2))
    else some s
  else if ps_lv s = 1 then
    if ty = 1953653099 then (if ps_fd s < 3 then some (s.1, s.2.1, s.2.2.1, s.2.2.2.1, ps_fd s + 1, ps_p s, va_up (ps_sb s) (ps_fd s) none, va_up (ps_tb s) (ps_fd s) (fun _ => none), ps_wd s) else none)
    else some s
  else if ps_lv s = 2 then
    if ty = 1937007212 then (if ps_sb s (ps_fd s - 1) = none then some (s.1, s.2.1, s.2.2.1, s.2.2.2.1, ps_fd s, ps_p s, va_up (ps_sb s) (ps_fd s - 1) (some (ps_p s)), ps_tb s, ps_wd s) else none)
    else some s
  else match r_tab ty with
    | none => some s
    | some (k, w) => if ps_tb s (ps_fd s - 1) k = none then some (s.1, s.2.1, s.2.2.1, s.2.2.2.1, ps_fd s, ps_p s, ps_sb s, aj_u2 (ps_tb s) (ps_fd s - 1) k (some (ps_p s, ct, e)), if k = 3 then va_up (ps_wd s) (ps_fd s - 1) w else ps_wd s) else none
def r_go (s : r_ps) (ty : Int32) (ct e : Nat) : r_ps :=
  if ps_lv s < 3 ∧ ty = aj_gv (ps_lv s) then (ps_lv s + 1, va_up (ps_hm s) (ps_lv s + 1) (ps_p s), va_up (ps_en s) (ps_lv s + 1) e, ps_m s, ps_fd s, ct, s.2.2.2.2.2.2)
  else (ps_lv s, ps_hm s, ps_en s, ps_m s, ps_fd s, e, s.2.2.2.2.2.2)
def r_whole (s : r_ps) : Prop := (ps_lv s = 0 → (ps_m s).1 = true ∧ (ps_m s).2.1 = true) ∧ (ps_lv s = 2 → ps_sb s (ps_fd s - 1) ≠ none) ∧ (ps_lv s = 3 → ∀ k, k < 4 → ps_tb s (ps_fd s - 1) k ≠ none)
noncomputable def r_step (b : Nat → Nat) (s : r_ps) : (Int32 × Int32) ⊕ Option r_ps :=
  if ps_p s < ps_en s (ps_lv s) then
    match r_head b (ps_p s) (ps_en s (ps_lv s) - ps_p s) with
    | none => .inl (1, nI (ps_p s))
    | some (hd, sz) => match r_note s (nI (fn_nb b (ps_p s + 4) 4)) (ps_p s + hd) (ps_p s + sz) with
      | none => .inl (2, nI (ps_p s))
      | some s' => .inr (some (r_go s' (nI (fn_nb b (ps_p s + 4) 4)) (ps_p s + hd) (ps_p s + sz)))
  else @ite _ (r_whole s) (Classical.propDecidable _) (if ps_lv s = 0 then .inr none else .inr (some (ps_lv s - 1, s.2))) (.inl (3, nI (ps_hm s (ps_lv s))))
noncomputable def r_run (b : Nat → Nat) : Nat → r_ps → (Int32 × Int32) ⊕ r_ps
  | 0, s => .inl (1, nI (ps_p s))
  | f + 1, s => match r_step b s with
    | .inl x => .inl x
    | .inr none => .inr s
    | .inr (some s') => r_run b f s'
def r_s0 (len : Nat) : r_ps := (0, fun _ => 0, fun _ => len, (false, false, 0, 0), 0, 0, fun _ => none, fun _ _ => none, fun _ => false)
/-- the tables of track t, as s found them -/
def ps_bx (s : r_ps) (t k : Nat) : Nat := ((ps_tb s t k).getD (0, 0, 0)).1
def ps_ct (s : r_ps) (t k : Nat) : Nat := ((ps_tb s t k).getD (0, 0, 0)).2.1
def ps_st (s : r_ps) (t k : Nat) : Nat := ((ps_tb s t k).getD (0, 0, 0)).2.2
/-- the first fault of kind 4 or 5: tracks from t on, m of them, tables from k on, four -/
noncomputable def r_f45 (b : Nat → Nat) (s : r_ps) (t : Nat) : Nat → Nat → Option (Int32 × Int32)
  | _, 0 => none
  | k, m + 1 => @ite _ (r_len b k (ps_wd s t) (ps_ct s t k) (ps_st s t k)) (Classical.propDecidable _) (@ite _ (r_num b k (ps_wd s t) (ps_ct s t k)) (Classical.propDecidable _) (r_f45 b s t (k + 1) m) (some (5, nI (ps_bx s t k)))) (some (4, nI (ps_bx s t k)))
noncomputable def r_f45s (b : Nat → Nat) (s : r_ps) : Nat → Nat → Option (Int32 × Int32)
  | _, 0 => none
  | t, m + 1 => match r_f45 b s t 0 4 with
    | some x => some x
    | none => r_f45s b s (t + 1) m
noncomputable def r_f6 (b : Nat → Nat) (s : r_ps) : Nat → Nat → Option (Int32 × Int32)
  | _, 0 => none
  | t, m + 1 => @ite _ (s_agr b (ps_wd s t) (ps_ct s t)) (Classical.propDecidable _) (r_f6 b s (t + 1) m) (some (6, oN (ps_sb s t)))
noncomputable def r_f7 (b : Nat → Nat) (s : r_ps) : Nat → Nat → Option (Int32 × Int32)
  | _, 0 => none
  | t, m + 1 => @ite _ (s_in b (ps_wd s t) (ps_ct s t) (ps_m s).2.2.1 (ps_m s).2.2.2) (Classical.propDecidable _) (r_f7 b s (t + 1) m) (some (7, nI (ps_bx s t 3)))
noncomputable def r_rd (len : Nat) (b : Nat → Nat) : (Int32 × Int32) ⊕ rl_t :=
  match r_run b 1201 (r_s0 len) with
  | .inl x => .inl x
  | .inr s => match r_f45s b s 0 (ps_fd s) with
    | some x => .inl x
    | none => match r_f6 b s 0 (ps_fd s) with
      | some x => .inl x
      | none => match r_f7 b s 0 (ps_fd s) with
        | some x => .inl x
        | none => .inr (ps_fd s, fun t => s_n b (ps_ct s t), fun t i => s_D b (ps_wd s t) (ps_ct s t) i, fun t i => s_S b (ps_wd s t) (ps_ct s t) i, fun t i => lN (fn_lf b (s_G b (ps_wd s t) (ps_ct s t) i) (s_S b (ps_wd s t) (ps_ct s t) i)))
/-! what holds all the way -/
def r_full (s : r_ps) (t : Nat) : Prop := ps_sb s t ≠ none ∧ ∀ k, k < 4 → ps_tb s t k ≠ none
def r_inv (len : Nat) (s : r_ps) : Prop :=
  ps_lv s < 4 ∧ ps_p s ≤ ps_en s (ps_lv s) ∧ ps_en s 0 ≤ len ∧ (∀ i, i < ps_lv s → ps_en s (i + 1) ≤ ps_en s i) ∧ (∀ i, i ≤ ps_lv s → ps_hm s i ≤ len) ∧ ps_fd s ≤ 3 ∧ (2 ≤ ps_lv s → 1 ≤ ps_fd s) ∧ ((ps_m s).2.1 = true → (ps_m s).2.2.1 ≤ (ps_m s).2.2.2 ∧ (ps_m s).2.2.2 ≤ len) ∧
  (∀ t, t < ps_fd s → (∀ q, ps_sb s t = some q → q ≤ len) ∧ ∀ k, k < 4 → ∀ x, ps_tb s t k = some x → x.1 ≤ len ∧ x.2.1 ≤ x.2.2 ∧ x.2.2 ≤ len) ∧
  (∀ t, t + 1 < ps_fd s → r_full s t) ∧ (ps_lv s ≤ 1 → ∀ t, t < ps_fd s → r_full s t) ∧ (ps_lv s = 2 → ps_sb s (ps_fd s - 1) ≠ none → r_full s (ps_fd s - 1)) ∧ (ps_lv s = 3 → ps_sb s (ps_fd s - 1) ≠ none)
