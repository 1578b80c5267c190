/-! Writer: the tables of a track -/
theorem eF.tr {I0 I : aj_I} {G : aj_G} {s : Nat × (Nat → Nat)} {o c : Nat} {du si : Nat → Nat} {da : Nat → Int64} (h : eF I0 I s) (ht : tC I0 G o c du si da) (ho : o + 3 < 17) : tC I G o c du si da :=
  ht.same (h.1 _ (by omega) (by omega)) (h.1 _ (by omega) (by omega)) (h.1 _ (by omega) (by omega)) rfl
theorem eF.zw {I0 I : aj_I} {s : Nat × (Nat → Nat)} {per : Nat} {far wide : Bool} (h : eF I0 I s) (hw : zW I0 per far wide) : zW I per far wide := by
  unfold zW at hw ⊢
  rw [h.1 52 (by decide) (by decide)]
  exact hw
theorem w_rows_mono (du : Nat → Nat) {i : Nat} : ∀ (k : Nat), w_rows du i ≤ w_rows du (i + k)
  | 0 => Nat.le_refl _
  | k + 1 => by
    have := w_rows_mono du (i := i) k
    rcases w_bgD du (i + k) with h | h
    · rw [show i + (k + 1) = i + k + 1 by omega, w_rows_y h]; omega
    · rw [show i + (k + 1) = i + k + 1 by omega, w_rows_n h]; omega
noncomputable def w_sttsE (du : Nat → Nat) (c : Nat) : Nat → List (Int64 × Nat)
  | 0 => []
  | i + 1 => w_sttsE du c i ++ @ite _ (w_bg du i) (Classical.propDecidable _) [p4 (lN (w_len du c i)), p4 (lN (du i))] []
theorem w_sttsE_y {du : Nat → Nat} {c i : Nat} (h : w_bg du i) : w_sttsE du c (i + 1) = w_sttsE du c i ++ [p4 (lN (w_len du c i)), p4 (lN (du i))] := by
  show _ ++ @ite _ (w_bg du i) (Classical.propDecidable _) _ _ = _
  rw [if_pos h]
theorem w_sttsE_n {du : Nat → Nat} {c i : Nat} (h : ¬ w_bg du i) : w_sttsE du c (i + 1) = w_sttsE du c i := by
  show _ ++ @ite _ (w_bg du i) (Classical.propDecidable _) _ _ = _
  rw [if_neg h, List.append_nil]
theorem w_sttsE_wd (du : Nat → Nat) (c : Nat) : ∀ i, f_wd (w_sttsE du c i) = 8 * w_rows du i
  | 0 => rfl
  | i + 1 => by
    rcases w_bgD du i with h | h
    · rw [w_sttsE_y h, f_wd_app, w_sttsE_wd du c i, w_rows_y h]
      show _ + 8 = _
      omega
    · rw [w_sttsE_n h, w_rows_n h, w_sttsE_wd du c i]
theorem w_th_wd (ty : Int32) (m w : Nat) : f_wd (w_th ty m w) = 16 := rfl
noncomputable def w_stts (du : Nat → Nat) (c : Nat) : List (Int64 × Nat) := w_th 1937011827 (w_rows du c) 8 ++ w_sttsE du c c
theorem w_stts_wd (du : Nat → Nat) (c : Nat) : f_wd (w_stts du c) = 16 + 8 * w_rows du c := by
  unfold w_stts
  rw [f_wd_app, w_th_wd, w_sttsE_wd]
def w_ste (c per k : Nat) : List (Int64 × Nat) := [p4 (lN (k + 1)), p4 (lN (w_ce c per k - k * per)), p4 1]
def w_stsc (c per : Nat) : List (Int64 × Nat) := w_th 1937011555 (w_trn c per) 12 ++ ((if 0 < w_trn c per then w_ste c per 0 else []) ++ (if 1 < w_trn c per then w_ste c per (w_chk c per - 1) else []))
theorem w_stsc_wd (c per : Nat) : f_wd (w_stsc c per) = 16 + 12 * w_trn c per := by
  unfold w_stsc
  rw [f_wd_app, f_wd_app, w_th_wd]
  have := w_trn_le c per
  rcases (show w_trn c per = 0 ∨ w_trn c per = 1 ∨ w_trn c per = 2 by omega) with h | h | h <;> rw [h] <;> rfl
def w_szE (si : Nat → Nat) : Nat → List (Int64 × Nat)
  | 0 => []
  | i + 1 => w_szE si i ++ [p4 (lN (si i))]
theorem w_szE_wd (si : Nat → Nat) : ∀ i, f_wd (w_szE si i) = 4 * i
  | 0 => rfl
  | i + 1 => by
    show f_wd (w_szE si i ++ [p4 (lN (si i))]) = _
    rw [f_wd_app, w_szE_wd si i]
    show _ + 4 = _
    omega
def w_stsz (c : Nat) (si : Nat → Nat) : List (Int64 × Nat) := [p4 (lN (20 + 4 * c)), p4 (Int32.toInt64 1937011578), p4 0, p4 0, p4 (lN c)] ++ w_szE si c
theorem w_stsz_wd (c : Nat) (si : Nat → Nat) : f_wd (w_stsz c si) = 20 + 4 * c := by
  unfold w_stsz
  rw [f_wd_app, w_szE_wd]
  rfl
def w_plE (pl : Nat → Nat) (pw : Nat) : Nat → List (Int64 × Nat)
  | 0 => []
  | k + 1 => w_plE pl pw k ++ [(lN (pl k), pw)]
theorem w_plE_wd (pl : Nat → Nat) (pw : Nat) : ∀ k, f_wd (w_plE pl pw k) = pw * k
  | 0 => rfl
  | k + 1 => by
    show f_wd (w_plE pl pw k ++ [(lN (pl k), pw)]) = _
    rw [f_wd_app, w_plE_wd pl pw k]
    show _ + (pw + 0) = _
    rw [Nat.mul_add, Nat.mul_one]
    rfl
def w_plc (c per : Nat) (far : Bool) (pl : Nat → Nat) : List (Int64 × Nat) := w_th (if far then 1668232756 else 1937007471) (w_chk c per) (w_pw far) ++ w_plE pl (w_pw far) (w_chk c per)
theorem w_plc_wd (c per : Nat) (far : Bool) (pl : Nat → Nat) : f_wd (w_plc c per far pl) = 16 + w_pw far * w_chk c per := by
  unfold w_plc
  rw [f_wd_app, w_th_wd, w_plE_wd]
noncomputable def w_trak (c : Nat) (du si : Nat → Nat) (per : Nat) (far : Bool) (pl : Nat → Nat) : List (Int64 × Nat) :=
  [p4 (lN (8 + w_stbl c du per (w_pw far))), p4 (Int32.toInt64 1953653099)] ++ ([p4 (lN (w_stbl c du per (w_pw far))), p4 (Int32.toInt64 1937007212)] ++ (w_stts du c ++ (w_stsc c per ++ (w_stsz c si ++ w_plc c per far pl))))
theorem w_trak_wd (c : Nat) (du si : Nat → Nat) (per : Nat) (far : Bool) (pl : Nat → Nat) : f_wd (w_trak c du si per far pl) = 8 + w_stbl c du per (w_pw far) := by
  unfold w_trak
  rw [f_wd_app, f_wd_app, f_wd_app, f_wd_app, f_wd_app, w_stts_wd, w_stsc_wd, w_stsz_wd, w_plc_wd]
  unfold w_stbl
  show 8 + (8 + _) = _
  omega
theorem w_pw_le (far : Bool) : 1 ≤ w_pw far ∧ w_pw far ≤ 8 := by cases far <;> decide
section WT
variable {Z : aj_Z} {I0 I : aj_I} {G : aj_G} {Q : aj_Q} {s : Nat × (Nat → Nat)} {o c : Nat} {du si : Nat → Nat} {da : Nat → Int64} {per : Nat} {far wide : Bool} {d mc ms : Nat}
theorem T_writeStts (hz : zAll Z) (ho : zTr Z o) (ho2 : o + 3 < 17) (ht : tC I0 G o c du si da) (he : eF I0 I s) (hfit : s.1 + (16 + 8 * w_rows du c) ≤ 1200) (hQ : ∀ I' : aj_I, eF I0 I' (f_ps s (w_stts du c)) → Q none Z I' G) : aj_T (d + 5) mc ms 173 [.ref 52, .ref o] Z I G Q := by
  have h16 := ht.2.1
  have hrl := w_rows_le du c
  refine t_173 fun J hJ => b_173_0 hJ (zk_52 hz) (T_sttsEntries hz ho (he.tr ht ho2) (b_173_8 hJ (zk_52 hz) ?_))
  refine T_putTableHead (w := 8) hz he (by omega) (by omega) (by omega) (fun I1 h1 => b_173_13 hJ ho.1 (T_sampleCount ho (h1.tr ht ho2) (b_173_17 hJ ?_)))
  have key : ∀ (m i : Nat) (I2 : aj_I), m + i = c → eF I0 I2 (f_ps (f_ps s (w_th 1937011827 (w_rows du c) 8)) (w_sttsE du c i)) → J 20 [some (.ref 52), some (.ref o), some (.int (nI c)), some (.int (nI i))] [] Z I2 G (0, 0) := by
    intro m
    induction m with
    | zero =>
      intro i I2 hi h2
      have hi : i = c := by omega
      subst hi
      refine b_173_20 hJ (fun _ => hQ I2 ?_) (zk_52 hz) (fun h => absurd (nI_le (Nat.le_refl i) (by omega)) h)
      unfold w_stts
      rw [f_ps_app]
      exact h2
    | succ m ih =>
      intro i I2 hi h2
      refine b_173_20 hJ (fun h => absurd h (nI_ge (by omega) (by omega))) (zk_52 hz) (fun _ => T_beginsRow ho (h2.tr ht ho2) (by omega) (fun hb => ?_) (fun hb => ?_))
      · have hmono := w_rows_mono du (i := i + 1) m
        rw [show i + 1 + m = c by omega, w_rows_y hb] at hmono
        have hlen : (f_ps (f_ps s (w_th 1937011827 (w_rows du c) 8)) (w_sttsE du c i)).1 = s.1 + 16 + 8 * w_rows du i := by rw [f_ps_1, f_ps_1, w_th_wd, w_sttsE_wd]
        refine b_173_31 hJ (fun h => absurd h (by decide)) (zk_52 hz) (fun _ => T_rowFrom hz ho (h2.tr ht ho2) (by omega) (b_173_41 hJ (zk_52 hz) (T_put hz h2 (by omega) (fun I3 h3 => b_173_45 hJ ho.1 (T_durationOf ho (h3.tr ht ho2) (by omega) (b_173_51 hJ (zk_52 hz) (T_put hz h3 ?_ (fun I4 h4 => b_173_55 hJ ?_))))))))
        · show (f_ps (f_ps s (w_th 1937011827 (w_rows du c) 8)) (w_sttsE du c i)).1 + 4 + 4 ≤ 1200
          omega
        · rw [nI_1]
          refine ih (i + 1) I4 (by omega) ?_
          rw [w_sttsE_y hb, f_ps_app]
          have hle := w_end_le du (c - (i + 1)) (i + 1)
          rw [nI_l (show w_len du c i < 2 ^ 31 by unfold w_len; omega), nI_l (ht.2.2 i (by omega)).2.1] at h4
          exact h4
      · refine b_173_31 hJ (fun _ => b_173_55 hJ ?_) (zk_52 hz) (fun h => absurd rfl h)
        rw [nI_1]
        refine ih (i + 1) I2 (by omega) ?_
        rw [w_sttsE_n hb]
        exact h2
  exact key c 0 I1 (by omega) h1
theorem T_putStscEntry (hz : zAll Z) (ho : zTr Z o) (ho2 : o + 3 < 17) (ht : tC I0 G o c du si da) (hw : zW I0 per far wide) {k : Nat} (hk : k ≤ 15) (hk2 : k * per ≤ w_ce c per k) (he : eF I0 I s) (hfit : s.1 + 12 ≤ 1200) (hQ : ∀ I' : aj_I, eF I0 I' (f_ps s (w_ste c per k)) → Q none Z I' G) : aj_T (d + 3) mc ms 175 [.ref 52, .ref o, .int (nI k)] Z I G Q := by
  have h16 := ht.2.1
  have hce := w_ce_le (c := c) (per := per) (k := k)
  refine t_175 fun J hJ => b_175_0 hJ (zk_52 hz) (T_put hz he (by omega) (fun I1 h1 => b_175_8 hJ (zk_52 hz) (T_chunkEnd hz ho (h1.tr ht ho2) (h1.zw hw) (by omega) (b_175_15 hJ (zk_52 hz) (zk_52 hz) (T_put hz h1 ?_ (fun I2 h2 => b_175_26 hJ (zk_52 hz) (T_put hz h2 ?_ (fun I3 h3 => b_175_31 hJ (hQ I3 ?_)))))))))
  · show s.1 + 4 + 4 ≤ 1200; omega
  · show s.1 + 4 + 4 + 4 ≤ 1200; omega
  · rw [(h1.zw hw).1, pk_mul, pk_sub hk2, nI_l (by omega), nI_1, nI_l (by omega)] at h3
    exact h3
theorem w_last {c per : Nat} (hp : 1 ≤ per) (hc : 0 < c) : (w_chk c per - 1) * per < c ∧ 1 ≤ w_chk c per := by
  have h1 : 1 ≤ w_chk c per := by
    unfold w_chk
    rw [Nat.le_div_iff_mul_le hp]
    omega
  refine ⟨?_, h1⟩
  have h2 : w_chk c per * per ≤ c + per - 1 := Nat.div_mul_le_self _ _
  rw [Nat.sub_mul, Nat.one_mul]
  omega
theorem w_ce_ge {c per k : Nat} (h : k * per ≤ c) : k * per ≤ w_ce c per k := by
  unfold w_ce
  split
  · rw [Nat.add_mul]; omega
  · exact h
theorem T_writeStsc (hz : zAll Z) (ho : zTr Z o) (ho2 : o + 3 < 17) (ht : tC I0 G o c du si da) (hw : zW I0 per far wide) (he : eF I0 I s) (hfit : s.1 + (16 + 12 * w_trn c per) ≤ 1200) (hQ : ∀ I' : aj_I, eF I0 I' (f_ps s (w_stsc c per)) → Q none Z I' G) : aj_T (d + 5) mc ms 174 [.ref 52, .ref o] Z I G Q := by
  have h16 := ht.2.1
  have hp1 := hw.2.1
  have htl := w_trn_le c per
  have hcl := w_chk_le (c := c) (per := per) h16 hp1
  refine t_174 fun J hJ => b_174_0 hJ (zk_52 hz) (T_stscEntries hz ho (he.tr ht ho2) (he.zw hw) (b_174_5 hJ (zk_52 hz) (T_putTableHead (w := 12) hz he (by omega) (by omega) (by omega) (fun I1 h1 => ?_))))
  have l1 : (f_ps s (w_th 1937011555 (w_trn c per) 12)).1 = s.1 + 16 := by rw [f_ps_1, w_th_wd]
  have hpos : 0 < w_trn c per → 0 < c := by
    intro h
    unfold w_trn at h
    split at h
    · omega
    · split at h
      · omega
      · omega
  -- behind the first entry
  have second : ∀ (I2 : aj_I) (s2 : Nat × (Nat → Nat)), s2 = f_ps (f_ps s (w_th 1937011555 (w_trn c per) 12)) (if 0 < w_trn c per then w_ste c per 0 else []) → eF I0 I2 s2 → J 25 [some (.ref 52), some (.ref o), some (.int (nI (w_trn c per)))] [] Z I2 G (0, 0) := by
    intro I2 s2 hs2 h2
    refine b_174_25 hJ (fun h => b_174_42 hJ (hQ I2 ?_)) (zk_52 hz) (fun h => ?_)
    · have hle : w_trn c per ≤ 1 := (nI_leI (a := w_trn c per) (b := 1) (by omega) (by decide)).mp h
      unfold w_stsc
      rw [f_ps_app, f_ps_app, ← hs2, if_neg (show ¬ 1 < w_trn c per by omega)]
      exact h2
    · have hgt : 1 < w_trn c per := Nat.not_le.mp (fun q => h (nI_le (a := w_trn c per) (b := 1) q (by decide)))
      have hc0 := hpos (by omega)
      obtain ⟨hl1, hl2⟩ := w_last (c := c) hp1 hc0
      refine T_chunkCount hz ho (h2.tr ht ho2) (h2.zw hw) (b_174_37 hJ (zk_52 hz) ?_)
      rw [show (1 : Int32) = nI 1 from rfl, pk_sub hl2]
      refine T_putStscEntry hz ho ho2 ht hw (by omega) (w_ce_ge (by omega)) h2 ?_ (fun I3 h3 => b_174_42 hJ (hQ I3 ?_))
      · rw [hs2, f_ps_1, l1, if_pos (show 0 < w_trn c per by omega)]
        show s.1 + 16 + 12 + 12 ≤ 1200
        omega
      · unfold w_stsc
        rw [f_ps_app, f_ps_app, ← hs2, if_pos hgt]
        exact h3
  refine b_174_15 hJ (fun h => ?_) (zk_52 hz) (fun h => ?_)
  · have h0 : w_trn c per ≤ 0 := (nI_leI (a := w_trn c per) (b := 0) (by omega) (by decide)).mp h
    refine second I1 _ ?_ h1
    rw [if_neg (by omega)]
    rfl
  · have h0 : 0 < w_trn c per := Nat.not_le.mp (fun q => h (nI_le (a := w_trn c per) (b := 0) q (by decide)))
    refine T_putStscEntry (k := 0) hz ho ho2 ht hw (by decide) (by rw [Nat.zero_mul]; exact Nat.zero_le _) h1 (by omega) (fun I2 h2 => second I2 _ ?_ h2)
    rw [if_pos h0]
theorem T_writeStsz (hz : zAll Z) (ho : zTr Z o) (ho2 : o + 3 < 17) (ht : tC I0 G o c du si da) (he : eF I0 I s) (hfit : s.1 + (20 + 4 * c) ≤ 1200) (hQ : ∀ I' : aj_I, eF I0 I' (f_ps s (w_stsz c si)) → Q none Z I' G) : aj_T (d + 4) mc ms 176 [.ref 52, .ref o] Z I G Q := by
  have h16 := ht.2.1
  refine t_176 fun J hJ => b_176_0 hJ ho.1 (T_sampleCount ho (he.tr ht ho2) (b_176_4 hJ (T_stszSize (b_176_10 hJ (zk_52 hz) (T_putHead hz he (by omega) (fun I1 h1 => b_176_15 hJ (zk_52 hz) (T_put hz h1 ?_ (fun I2 h2 => b_176_20 hJ (zk_52 hz) (T_put hz h2 ?_ (fun I3 h3 => b_176_25 hJ (zk_52 hz) (T_put hz h3 ?_ (fun I4 h4 => b_176_31 hJ ?_))))))))))))
  · show s.1 + 4 + 4 + 4 ≤ 1200; omega
  · show s.1 + 4 + 4 + 4 + 4 ≤ 1200; omega
  · show s.1 + 4 + 4 + 4 + 4 + 4 ≤ 1200; omega
  · rw [nI_l (by omega), nI_l (by omega)] at h4
    have h4 : eF I0 I4 (f_ps s [p4 (lN (20 + 4 * c)), p4 (Int32.toInt64 1937011578), p4 0, p4 0, p4 (lN c)]) := h4
    have key : ∀ (m i : Nat) (I5 : aj_I), m + i = c → eF I0 I5 (f_ps (f_ps s [p4 (lN (20 + 4 * c)), p4 (Int32.toInt64 1937011578), p4 0, p4 0, p4 (lN c)]) (w_szE si i)) → J 33 [some (.ref 52), some (.ref o), some (.int (nI c)), some (.int (nI i))] [] Z I5 G (0, 0) := by
      intro m
      induction m with
      | zero =>
        intro i I5 hi h5
        have hi : i = c := by omega
        subst hi
        refine b_176_33 hJ (fun _ => hQ I5 ?_) ho.1 (fun h => absurd (nI_le (Nat.le_refl i) (by omega)) h)
        unfold w_stsz
        rw [f_ps_app]
        exact h5
      | succ m ih =>
        intro i I5 hi h5
        have hlen : (f_ps (f_ps s [p4 (lN (20 + 4 * c)), p4 (Int32.toInt64 1937011578), p4 0, p4 0, p4 (lN c)]) (w_szE si i)).1 = s.1 + 20 + 4 * i := by
          rw [f_ps_1, f_ps_1, w_szE_wd]
          rfl
        refine b_176_33 hJ (fun h => absurd h (nI_ge (by omega) (by omega))) ho.1 (fun _ => T_sizeOf ho (h5.tr ht ho2) (by omega) (b_176_44 hJ (zk_52 hz) (T_put hz h5 (by omega) (fun I6 h6 => b_176_48 hJ ?_))))
        rw [nI_1]
        refine ih (i + 1) I6 (by omega) ?_
        show eF I0 I6 (f_ps _ (w_szE si i ++ [p4 (lN (si i))]))
        rw [f_ps_app]
        have := (ht.2.2 i (by omega)).2.2.2.1
        rw [nI_l (by omega)] at h6
        exact h6
    exact key c 0 I4 (by omega) h4
theorem T_writePlaces (hz : zAll Z) (ho : zTr Z o) (ho2 : o + 3 < 17) (ht : tC I0 G o c du si da) (hw : zW I0 per far wide) {t : Nat} (ht3 : t < 3) {pl : Nat → Nat} (hpl : ∀ k, k < 16 → I0 53 (t * 16 + k) = nI (pl k) ∧ pl k < 2 ^ 31) (he : eF I0 I s) (hfit : s.1 + (16 + w_pw far * w_chk c per) ≤ 1200) (hQ : ∀ I' : aj_I, eF I0 I' (f_ps s (w_plc c per far pl)) → Q none Z I' G) : aj_T (d + 5) mc ms 177 [.ref 52, .ref o, .int (nI t)] Z I G Q := by
  have h16 := ht.2.1
  have hp1 := hw.2.1
  have hcl := w_chk_le (c := c) (per := per) h16 hp1
  have hpw := w_pw_le far
  have hcp : w_chk c per * w_pw far ≤ 16 * 8 := Nat.mul_le_mul (by omega) hpw.2
  refine t_177 fun J hJ => b_177_0 hJ (zk_52 hz) (T_chunkCount hz ho (he.tr ht ho2) (he.zw hw) (b_177_5 hJ ?_))
  rw [if_neg (show ¬ (16 : Int32) < nI (w_chk c per) from fun q => absurd ((nI_ltI (a := 16) (b := w_chk c per) (by decide) (by omega)).mp q) (by omega))]
  have loop : ∀ (I1 : aj_I) (w1 w4 : Option Value), eF I0 I1 (f_ps s (w_th (if far then 1668232756 else 1937007471) (w_chk c per) (w_pw far))) → J 34 [some (.ref 52), w1, some (.int (nI t)), some (.int (nI (w_chk c per))), w4] [] Z I1 G (0, 0) := by
    intro I1 w1 w4 h1
    refine b_177_34 hJ ?_
    have key : ∀ (m k : Nat) (I2 : aj_I), m + k = w_chk c per → eF I0 I2 (f_ps (f_ps s (w_th (if far then 1668232756 else 1937007471) (w_chk c per) (w_pw far))) (w_plE pl (w_pw far) k)) → J 37 [some (.ref 52), w1, some (.int (nI t)), some (.int (nI (w_chk c per))), some (.int (nI k))] [] Z I2 G (0, 0) := by
      intro m
      induction m with
      | zero =>
        intro k I2 hk h2
        have hk : k = w_chk c per := by omega
        refine b_177_37 hJ (fun _ => hQ I2 ?_) (zk_52 hz) (zr_52_1 hz) (zr_52_2 hz) (zk_53 hz) (fun h => absurd (nI_le (by omega) (by omega)) h) (fun h => absurd (nI_le (by omega) (by omega)) h)
        unfold w_plc
        rw [f_ps_app, ← hk]
        rw [← hk] at h2
        exact h2
      | succ m ih =>
        intro k I2 hk h2
        have ei : nI t * 16 + nI k = nI (t * 16 + k) := by rw [show (16 : Int32) = nI 16 from rfl, pk_mul, nI_add]
        have hlen : (f_ps (f_ps s (w_th (if far then 1668232756 else 1937007471) (w_chk c per) (w_pw far))) (w_plE pl (w_pw far) k)).1 = s.1 + 16 + w_pw far * k := by rw [f_ps_1, f_ps_1, w_th_wd, w_plE_wd]
        have hmul : w_pw far * (k + 1) ≤ w_pw far * w_chk c per := Nat.mul_le_mul_left _ (by omega)
        rw [Nat.mul_add, Nat.mul_one] at hmul
        refine b_177_37 hJ (fun h => absurd h (nI_ge (by omega) (by omega))) (zk_52 hz) (zr_52_1 hz) (zr_52_2 hz) (zk_53 hz) (fun _ => ?_) (fun _ => T_placeWidth hz (h2.zw hw) (b_177_64 hJ (zk_17 hz) (T_addF hz h2 hpw.1 hpw.2 (by omega) (fun r I3 h3 => b_177_67 hJ ?_))))
        · rw [ei]; exact vp_in_nI (by omega) (by decide)
        · rw [nI_1]
          refine ih (k + 1) I3 (by omega) ?_
          show eF I0 I3 (f_ps _ (w_plE pl (w_pw far) k ++ [(lN (pl k), w_pw far)]))
          rw [f_ps_app]
          have hp := hpl k (by omega)
          rw [ei, nI_clamp (by omega), h2.1 53 (by decide) (by decide), hp.1, nI_l hp.2] at h3
          exact h3
    exact key (w_chk c per) 0 I1 (by omega) h1
  have h4 := (he.zw hw).2.2.2.1
  refine b_177_10 hJ (zk_52 hz) (fun h => T_placeWidth hz (he.zw hw) (b_177_31 hJ (zk_52 hz) (T_putTableHead hz he (by omega) (by omega) (by omega) (fun I1 h1 => loop I1 _ _ ?_)))) (fun h => T_placeWidth hz (he.zw hw) (b_177_31 hJ (zk_52 hz) (T_putTableHead hz he (by omega) (by omega) (by omega) (fun I1 h1 => loop I1 _ _ ?_))))
  · cases far
    · exact h1
    · rw [h4] at h; exact absurd h (by decide)
  · cases far
    · rw [h4] at h; exact absurd rfl h
    · exact h1
end WT
