/-! write: what it must write, in numbers -/
def w_bg (du : Nat → Nat) (i : Nat) : Prop := i = 0 ∨ du i ≠ du (i - 1)
theorem w_bgD (du : Nat → Nat) (i : Nat) : w_bg du i ∨ ¬ w_bg du i := Classical.em _
noncomputable def w_rows (du : Nat → Nat) : Nat → Nat
  | 0 => 0
  | i + 1 => w_rows du i + @ite _ (w_bg du i) (Classical.propDecidable _) 1 0
theorem w_rows_y {du : Nat → Nat} {i : Nat} (h : w_bg du i) : w_rows du (i + 1) = w_rows du i + 1 := by
  show _ + @ite _ (w_bg du i) (Classical.propDecidable _) 1 0 = _
  rw [if_pos h]
theorem w_rows_n {du : Nat → Nat} {i : Nat} (h : ¬ w_bg du i) : w_rows du (i + 1) = w_rows du i := by
  show _ + @ite _ (w_bg du i) (Classical.propDecidable _) 1 0 = _
  rw [if_neg h]
  rfl
theorem w_rows_le (du : Nat → Nat) : ∀ i, w_rows du i ≤ i
  | 0 => Nat.le_refl _
  | i + 1 => by
    have := w_rows_le du i
    rcases w_bgD du i with h | h
    · rw [w_rows_y h]; omega
    · rw [w_rows_n h]; omega
/-- where the row that e belongs to ends, at most f further -/
noncomputable def w_end (du : Nat → Nat) : Nat → Nat → Nat
  | 0, e => e
  | f + 1, e => @ite _ (w_bg du e) (Classical.propDecidable _) e (w_end du f (e + 1))
theorem w_end_y {du : Nat → Nat} {f e : Nat} (h : w_bg du e) : w_end du (f + 1) e = e := by
  show @ite _ (w_bg du e) (Classical.propDecidable _) e _ = _
  rw [if_pos h]
theorem w_end_n {du : Nat → Nat} {f e : Nat} (h : ¬ w_bg du e) : w_end du (f + 1) e = w_end du f (e + 1) := by
  show @ite _ (w_bg du e) (Classical.propDecidable _) e _ = _
  rw [if_neg h]
noncomputable def w_len (du : Nat → Nat) (c i : Nat) : Nat := w_end du (c - (i + 1)) (i + 1) - i
theorem w_end_le (du : Nat → Nat) : ∀ f e, e ≤ w_end du f e ∧ w_end du f e ≤ e + f
  | 0, e => ⟨Nat.le_refl _, Nat.le_refl _⟩
  | f + 1, e => by
    rcases w_bgD du e with h | h
    · rw [w_end_y h]; omega
    · rw [w_end_n h]
      have := w_end_le du f (e + 1)
      omega
def w_chk (c per : Nat) : Nat := (c + per - 1) / per
def w_ce (c per k : Nat) : Nat := if (k + 1) * per < c then (k + 1) * per else c
def w_trn (c per : Nat) : Nat := if per < c then (if c % per = 0 then 1 else 2) else if c = 0 then 0 else 1
noncomputable def w_stbl (c : Nat) (du : Nat → Nat) (per pw : Nat) : Nat := 76 + 8 * w_rows du c + 12 * w_trn c per + 4 * c + pw * w_chk c per
noncomputable def w_moov (c : Nat → Nat) (du : Nat → Nat → Nat) (per pw : Nat) : Nat → Nat
  | 0 => 8
  | t + 1 => w_moov c du per pw t + (8 + w_stbl (c t) (du t) per pw)
/-- bytes of the samples from i on, before e -/
def w_cb (si : Nat → Nat) (i : Nat) : Nat → Nat
  | 0 => 0
  | k + 1 => w_cb si i k + si (i + k)
/-- bytes of chunk k of a track -/
def w_ck (c : Nat) (si : Nat → Nat) (per k : Nat) : Nat := w_cb si (k * per) (w_ce c per k - k * per)
/-- bytes of the chunks k of the tracks before t -/
def w_ct (c : Nat → Nat) (si : Nat → Nat → Nat) (per k : Nat) : Nat → Nat
  | 0 => 0
  | t + 1 => w_ct c si per k t + w_ck (c t) (si t) per k
/-- bytes of all chunks before k of n tracks -/
def w_cn (n : Nat) (c : Nat → Nat) (si : Nat → Nat → Nat) (per : Nat) : Nat → Nat
  | 0 => 0
  | k + 1 => w_cn n c si per k + w_ct c si per k n
theorem w_chk_le {c per : Nat} (hc : c ≤ 16) (hp : 1 ≤ per) : w_chk c per ≤ c := by
  unfold w_chk
  rcases Nat.eq_zero_or_pos c with h | h
  · subst h
    rw [Nat.zero_add]
    exact Nat.le_of_eq (Nat.div_eq_of_lt (by omega))
  · apply Nat.le_of_lt_succ
    rw [Nat.div_lt_iff_lt_mul hp]
    have h1 : c + per - 1 < c + per := by omega
    have h2 : c + per ≤ (c + 1) * per := by
      rw [Nat.add_mul, Nat.one_mul]
      have := Nat.le_mul_of_pos_right c hp
      omega
    exact Nat.lt_of_lt_of_le h1 h2
theorem w_trn_le (c per : Nat) : w_trn c per ≤ 2 := by unfold w_trn; split <;> split <;> omega
theorem w_cb_le {si : Nat → Nat} {i : Nat} : ∀ (k : Nat), (∀ j, j < k → si (i + j) ≤ 8) → w_cb si i k ≤ 8 * k
  | 0, _ => by simp [w_cb]
  | k + 1, h => by
    have h1 := w_cb_le k (fun j hj => h j (by omega))
    have h2 := h k (by omega)
    show w_cb si i k + si (i + k) ≤ _
    omega
theorem w_ce_le {c per k : Nat} : w_ce c per k ≤ c := by unfold w_ce; split <;> omega
/-! the bytes: a row of numbers and widths, one behind the other -/
def f_put (s : Nat × (Nat → Nat)) (q : Int64 × Nat) : Nat × (Nat → Nat) := (s.1 + q.2, fn_app s.2 s.1 q.1 q.2)
def f_ps (s : Nat × (Nat → Nat)) (l : List (Int64 × Nat)) : Nat × (Nat → Nat) := l.foldl f_put s
def f_wd (l : List (Int64 × Nat)) : Nat := (l.map (fun q => q.2)).sum
theorem f_ps_app (s : Nat × (Nat → Nat)) (a b : List (Int64 × Nat)) : f_ps s (a ++ b) = f_ps (f_ps s a) b := List.foldl_append
theorem f_wd_app (a b : List (Int64 × Nat)) : f_wd (a ++ b) = f_wd a + f_wd b := by unfold f_wd; rw [List.map_append, List.sum_append]
theorem f_ps_1 : ∀ (l : List (Int64 × Nat)) (s : Nat × (Nat → Nat)), (f_ps s l).1 = s.1 + f_wd l
  | [], s => rfl
  | q :: l, s => by
    show (f_ps (f_put s q) l).1 = _
    rw [f_ps_1 l]
    show s.1 + q.2 + _ = _
    unfold f_wd
    rw [List.map_cons, List.sum_cons, Nat.add_assoc]
def p4 (v : Int64) : Int64 × Nat := (v, 4)
