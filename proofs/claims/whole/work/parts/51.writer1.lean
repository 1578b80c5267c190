/-! Writer: what it counts -/
def zW (I : aj_I) (per : Nat) (far wide : Bool) : Prop := I 52 3 = nI per ∧ 1 ≤ per ∧ per ≤ 16 ∧ I 52 4 = (if far then 1 else 0) ∧ I 52 5 = (if wide then 1 else 0)
def w_pw (far : Bool) : Nat := if far then 8 else 4
section WR
variable {Z : aj_Z} {I : aj_I} {G : aj_G} {Q : aj_Q} {o c : Nat} {du si : Nat → Nat} {da : Nat → Int64} {per : Nat} {far wide : Bool} {d mc ms : Nat}
theorem T_chunkCount (hz : zAll Z) (ho : zTr Z o) (ht : tC I G o c du si da) (hw : zW I per far wide) (hQ : Q (some (.int (nI (w_chk c per)))) Z I G) : aj_T (d + 2) mc ms 156 [.ref 52, .ref o] Z I G Q := by
  have h16 := ht.2.1
  have hp1 := hw.2.1
  have hp2 := hw.2.2.1
  refine t_156 fun J hJ => b_156_0 hJ ho.1 (T_sampleCount ho ht (b_156_4 hJ (zk_52 hz) ?_ ?_))
  · rw [hw.1]; exact nI_ne0 (by omega) (by omega)
  · rw [hw.1, nI_add, show (1 : Int32) = nI 1 from rfl, pk_sub (by omega), pk_div (by omega) (by omega) (by omega)]
    exact hQ
theorem T_chunkEnd (hz : zAll Z) (ho : zTr Z o) (ht : tC I G o c du si da) (hw : zW I per far wide) {k : Nat} (hk : k ≤ 16) (hQ : Q (some (.int (nI (w_ce c per k)))) Z I G) : aj_T (d + 2) mc ms 157 [.ref 52, .ref o, .int (nI k)] Z I G Q := by
  have h16 := ht.2.1
  have hp1 := hw.2.1
  have hp2 := hw.2.2.1
  have hkp : (k + 1) * per ≤ 17 * 16 := Nat.mul_le_mul (by omega) hp2
  refine t_157 fun J hJ => b_157_0 hJ ho.1 (T_sampleCount ho ht (b_157_4 hJ (zk_52 hz) (b_157_15 hJ ?_)))
  rw [hw.1, nI_1, pk_mul]
  unfold w_ce at hQ
  by_cases h : (k + 1) * per < c
  · rw [if_pos h] at hQ
    rw [if_pos (nI_lt h (by omega))]
    exact hQ
  · rw [if_neg h] at hQ
    rw [if_neg (fun z => h ((nI_ltI (by omega) (by omega)).mp z))]
    exact hQ
theorem T_beginsRow (ho : zTr Z o) (ht : tC I G o c du si da) {i : Nat} (hi : i < c) (h1 : w_bg du i → Q (some (.int 1)) Z I G) (h2 : ¬ w_bg du i → Q (some (.int 0)) Z I G) : aj_T (d + 2) mc ms 158 [.ref 52, .ref o, .int (nI i)] Z I G Q := by
  have h16 := ht.2.1
  refine t_158 fun J hJ => b_158_0 hJ (fun z => h1 (Or.inl ((nI_eq (a := i) (b := 0) (by omega) (by decide)).mp z))) ho.1 (fun z => ?_)
  have hi0 : i ≠ 0 := fun q => z (by rw [q]; rfl)
  have e : nI i - 1 = nI (i - 1) := by rw [show (1 : Int32) = nI 1 from rfl, pk_sub (by omega)]
  refine T_durationOf ho ht hi (b_158_9 hJ ho.1 ?_)
  rw [e]
  have hb1 := (ht.2.2 i hi).2.1
  have hb2 := (ht.2.2 (i - 1) (by omega)).2.1
  refine T_durationOf ho ht (show i - 1 < c by omega) (b_158_16 hJ (fun q => h2 (fun h => ?_)) (fun q => h1 (Or.inr (fun h => q (by rw [h])))))
  rcases h with h | h
  · exact hi0 h
  · exact h ((nI_eq hb1 hb2).mp q)
theorem T_rowFrom (hz : zAll Z) (ho : zTr Z o) (ht : tC I G o c du si da) {i : Nat} (hi : i < c) (hQ : Q (some (.int (nI (w_len du c i)))) Z I G) : aj_T (d + 3) mc ms 159 [.ref 52, .ref o, .int (nI i)] Z I G Q := by
  have h16 := ht.2.1
  refine t_159 fun J hJ => b_159_0 hJ ho.1 (T_sampleCount ho ht (b_159_4 hJ ?_))
  rw [nI_1]
  have key : ∀ (f e : Nat), f + e = c → i < e → w_end du f e = w_end du (c - (i + 1)) (i + 1) → J 10 [some (.ref 52), some (.ref o), some (.int (nI i)), some (.int (nI c)), some (.int (nI e))] [] Z I G (0, 0) := by
    intro f
    induction f with
    | zero =>
      intro e he hie hw
      have he : e = c := by omega
      subst he
      refine b_159_10 hJ (fun _ => ?_) (zk_52 hz) (fun h => absurd (nI_le (Nat.le_refl e) (by omega)) h)
      rw [pk_sub (by omega)]
      have e2 : e - i = w_len du e i := by unfold w_len; rw [← hw]; rfl
      rw [e2]
      exact hQ
    | succ f ih =>
      intro e he hie hw
      refine b_159_10 hJ (fun h => absurd h (nI_ge (by omega) (by omega))) (zk_52 hz) (fun _ => T_beginsRow ho ht (by omega) (fun hb => b_159_23 hJ (fun _ => ?_) (fun h => absurd h (by decide))) (fun hb => b_159_23 hJ (fun h => absurd rfl h) (fun _ => ?_)))
      · rw [w_end_y hb] at hw
        rw [pk_sub (by omega)]
        have e2 : e - i = w_len du c i := by unfold w_len; rw [← hw]
        rw [e2]
        exact hQ
      · rw [w_end_n hb] at hw
        rw [nI_1]
        exact ih (e + 1) (by omega) (by omega) hw
  exact key (c - (i + 1)) (i + 1) (by omega) (by omega) rfl
theorem T_sttsEntries (hz : zAll Z) (ho : zTr Z o) (ht : tC I G o c du si da) (hQ : Q (some (.int (nI (w_rows du c)))) Z I G) : aj_T (d + 3) mc ms 160 [.ref 52, .ref o] Z I G Q := by
  have h16 := ht.2.1
  refine t_160 fun J hJ => b_160_0 hJ ho.1 (T_sampleCount ho ht (b_160_4 hJ ?_))
  have key : ∀ (f i : Nat), f + i = c → J 10 [some (.ref 52), some (.ref o), some (.int (nI c)), some (.int (nI (w_rows du i))), some (.int (nI i))] [] Z I G (0, 0) := by
    intro f
    induction f with
    | zero =>
      intro i hi
      have hi : i = c := by omega
      subst hi
      exact b_160_10 hJ (fun _ => hQ) (zk_52 hz) (fun h => absurd (nI_le (Nat.le_refl i) (by omega)) h)
    | succ f ih =>
      intro i hi
      refine b_160_10 hJ (fun h => absurd h (nI_ge (by omega) (by omega))) (zk_52 hz) (fun _ => T_beginsRow ho ht (by omega) (fun hb => b_160_23 hJ (fun h => absurd h (by decide)) (fun _ => ?_)) (fun hb => b_160_23 hJ (fun _ => ?_) (fun h => absurd rfl h)))
      · rw [nI_1, nI_1, ← w_rows_y hb]
        exact ih (i + 1) (by omega)
      · rw [nI_1, ← w_rows_n hb]
        exact ih (i + 1) (by omega)
  exact key c 0 (by omega)
theorem T_stscEntries (hz : zAll Z) (ho : zTr Z o) (ht : tC I G o c du si da) (hw : zW I per far wide) (hQ : Q (some (.int (nI (w_trn c per)))) Z I G) : aj_T (d + 2) mc ms 161 [.ref 52, .ref o] Z I G Q := by
  have h16 := ht.2.1
  have hp1 := hw.2.1
  have hp2 := hw.2.2.1
  refine t_161 fun J hJ => b_161_0 hJ ho.1 (T_sampleCount ho ht (b_161_4 hJ (zk_52 hz) (fun _ => ?_) (fun a b => ?_) (fun a b => ?_) (fun a b => ?_) (fun a b => ?_)))
  · rw [hw.1]; exact nI_ne0 (by omega) (by omega)
  · rw [hw.1] at a b
    have a' := (nI_ltI (by omega) (by omega)).mp a
    rw [pk_rem (by omega) (by omega) (by omega)] at b
    have : c % per ≠ 0 := fun q => b (by rw [q]; rfl)
    unfold w_trn at hQ
    rw [if_pos a', if_neg this] at hQ
    exact hQ
  · rw [hw.1] at a b
    have a' := (nI_ltI (by omega) (by omega)).mp a
    rw [pk_rem (by omega) (by omega) (by omega)] at b
    have hm : c % per < per := Nat.mod_lt _ (by omega)
    have : c % per = 0 := (nI_eq (b := 0) (by omega) (by decide)).mp b
    unfold w_trn at hQ
    rw [if_pos a', if_pos this] at hQ
    exact hQ
  · rw [hw.1] at a
    have a' : ¬ per < c := fun q => a (nI_lt q (by omega))
    have : c ≠ 0 := fun q => b (by rw [q]; rfl)
    unfold w_trn at hQ
    rw [if_neg a', if_neg this] at hQ
    exact hQ
  · rw [hw.1] at a
    have a' : ¬ per < c := fun q => a (nI_lt q (by omega))
    have : c = 0 := (nI_eq (b := 0) (by omega) (by decide)).mp b
    unfold w_trn at hQ
    rw [if_neg a', if_pos this] at hQ
    exact hQ
theorem T_placeWidth (hz : zAll Z) (hw : zW I per far wide) (hQ : Q (some (.int (nI (w_pw far)))) Z I G) : aj_T (d + 1) mc ms 162 [.ref 52] Z I G Q := by
  have h4 := hw.2.2.2.1
  refine t_162 fun J hJ => b_162_0 hJ (zk_52 hz) (fun h => ?_) (fun h => ?_)
  · cases far
    · exact hQ
    · rw [h4] at h; exact absurd h (by decide)
  · cases far
    · rw [h4] at h; exact absurd rfl h
    · exact hQ
theorem T_tableSize {a w : Nat} (hQ : Q (some (.int (nI (16 + a * w)))) Z I G) : aj_T (d + 1) mc ms 163 [.int (nI a), .int (nI w)] Z I G Q := by
  refine t_163 fun J hJ => b_163_0 hJ ?_
  rw [pk_mul, show (16 : Int32) = nI 16 from rfl, nI_add]
  exact hQ
theorem T_stszSize {a : Nat} (hQ : Q (some (.int (nI (20 + 4 * a)))) Z I G) : aj_T (d + 2) mc ms 164 [.int (nI a)] Z I G Q := by
  refine t_164 fun J hJ => b_164_0 hJ (T_tableSize (w := 4) (b_164_5 hJ ?_))
  rw [show (4 : Int32) = nI 4 from rfl, nI_add, show 16 + a * 4 + 4 = 20 + 4 * a by omega]
  exact hQ
theorem T_stblSize (hz : zAll Z) (ho : zTr Z o) (ht : tC I G o c du si da) (hw : zW I per far wide) (hQ : Q (some (.int (nI (w_stbl c du per (w_pw far))))) Z I G) : aj_T (d + 4) mc ms 165 [.ref 52, .ref o] Z I G Q := by
  refine t_165 fun J hJ => b_165_0 hJ (zk_52 hz) (T_sttsEntries hz ho ht (b_165_7 hJ (T_tableSize (w := 8) (b_165_12 hJ (zk_52 hz) ?_))))
  refine T_stscEntries hz ho ht hw (b_165_18 hJ (T_tableSize (w := 12) (b_165_23 hJ ho.1 ?_)))
  refine T_sampleCount ho ht (b_165_28 hJ (T_stszSize (b_165_31 hJ (zk_52 hz) ?_)))
  refine T_chunkCount hz ho ht hw (b_165_37 hJ (zk_52 hz) (T_placeWidth hz hw (b_165_41 hJ (T_tableSize (b_165_44 hJ ?_)))))
  rw [show (8 : Int32) = nI 8 from rfl, nI_add, nI_add, nI_add, nI_add]
  have e : 8 + (16 + w_rows du c * 8) + (16 + w_trn c per * 12) + (20 + 4 * c) + (16 + w_chk c per * w_pw far) = w_stbl c du per (w_pw far) := by
    unfold w_stbl
    rw [Nat.mul_comm (w_chk c per)]
    omega
  rw [e]
  exact hQ
end WR
