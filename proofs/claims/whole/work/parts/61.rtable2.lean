/-! read: the class's tables, one by one -/
theorem r_col_0 {k : Nat} {w : Bool} : r_col k w 0 := by
  unfold r_col
  have := (r_nw_le k w).2
  omega
theorem r_col_01 {w : Bool} : r_col 0 w 1 := by cases w <;> (unfold r_col; decide)
theorem r_col_11 {w : Bool} : r_col 1 w 1 := by cases w <;> (unfold r_col; decide)
theorem r_col_12 {w : Bool} : r_col 1 w 2 := by cases w <;> (unfold r_col; decide)
section RU
variable {Z : aj_Z} {I : aj_I} {G : aj_G} {Q : aj_Q} {len : Nat} {b : Nat → Nat} {o k : Nat} {w : Bool} {bx ct st : Nat} {d mc ms : Nat}
theorem r_en_lt {I : aj_I} (hf : fC I 17 18 len b) (hcs : ct ≤ st) (hst : st ≤ len) (hl : r_len b k w ct st) {e j : Nat} (he : e < r_lst b k ct) (hj : r_col k w j) : r_en b k w ct e j < 2 ^ 64 := by
  refine hf.nb8 (r_in hcs hst hl he hj) ?_
  unfold r_nw
  split
  · exact Or.inr rfl
  · exact Or.inl rfl
theorem r_en_lt4 {I : aj_I} (hf : fC I 17 18 len b) (hcs : ct ≤ st) (hst : st ≤ len) (hl : r_len b k w ct st) (hk : k ≠ 3) {e j : Nat} (he : e < r_lst b k ct) (hj : r_col k w j) : r_en b k w ct e j < 4294967296 := by
  have hin := r_in hcs hst hl he hj
  have en : r_nw k w = 4 := if_neg (fun q => hk q.1)
  unfold r_en
  rw [en] at hin ⊢
  exact hf.nb4 hin
theorem T_entryIsRight (hz : zAll Z) (ho : zTb Z o) (hf : fC I 17 18 len b) (ht : tbC I o k w bx ct st) (hst : st ≤ len) (hl : r_len b k w ct st) {e : Nat} (he : e < r_lst b k ct) (h1 : r_ent b k w ct e → Q (some (.int 1)) Z I G) (h2 : ¬ r_ent b k w ct e → Q (some (.int 0)) Z I G) : aj_T (d + 3) mc ms 127 [.ref o, .int (nI e)] Z I G Q := by
  have hcs := ht.2.2.2.2.2.2.1
  have hk := ht.2.2.2.2.2.2.2
  have hle := hf.2.1
  have b0 := r_en_lt hf hcs hst hl he (r_col_0 (k := k) (w := w))
  have hle2 := hl.2
  have hew := r_ew_le k w
  have hmul : r_lst b k ct * 1 ≤ r_lst b k ct * r_ew k w := Nat.mul_le_mul_left _ (by omega)
  refine t_127 fun J hJ => b_127_0 hJ ho.1 (T_entryNumber (j := 0) hz ho hf ht hst hl he r_col_0 (b_127_6 hJ ho.1 (fun q => ?_) (fun _ q => ?_) (fun q1 q2 => ?_)))
  · rw [ht.2.1, r_ty_1 hk] at q
    subst q
    have b1 := r_en_lt4 hf hcs hst hl (by decide) he (r_col_0 (k := 1) (w := w))
    have b2 := r_en_lt4 hf hcs hst hl (by decide) he (r_col_11 (w := w))
    have b3 := r_en_lt4 hf hcs hst hl (by decide) he (r_col_12 (w := w))
    have tail : ∀ (w2 w3 : Option Value), r_en b 1 w ct e 0 < 2 ^ 31 → (if e = 0 then r_en b 1 w ct e 0 = 1 else r_en b 1 w ct (e - 1) 0 < r_en b 1 w ct e 0) → aj_T (d + 2) 0 0 123 [.ref o, .int (nI e), .int 1] Z I G (fun r Z1 I1 G1 => J 100 [some (.ref o), some (.int (nI e)), w2, w3] (r.toList ++ []) Z1 I1 G1 (0, 0)) := by
      intro w2 w3 hA hB
      refine T_entryNumber (j := 1) hz ho hf ht hst hl he r_col_11 (b_127_100 hJ (T_isCount (by omega) (fun hc => b_127_103 hJ (fun z => absurd z (by decide)) ho.1 (fun _ => ?_)) (fun hc => b_127_103 hJ (fun _ => h2 (fun z => hc ⟨(z.2.2 rfl).2.1, (z.2.2 rfl).2.2.1⟩)) ho.1 (fun z => absurd rfl z))))
      refine T_entryNumber (j := 2) hz ho hf ht hst hl he r_col_12 (b_127_112 hJ (fun z => h2 (fun y => z (by rw [(y.2.2 rfl).2.2.2]; rfl))) (fun z => h1 ⟨hA, fun y => absurd y (by decide), fun _ => ⟨hB, hc.1, hc.2, ?_⟩⟩))
      rw [show (1 : Int64) = lN 1 from rfl, l_eq (by omega) (by decide)] at z
      exact z
    refine T_isTooMuch b0 (fun a => b_127_65 hJ (fun z => absurd rfl z) ho.1 (fun _ z => ?_) (fun _ z y => h2 (fun x => y ?_)) (fun _ z y => tail _ _ a ?_)) (fun a => b_127_65 hJ (fun _ => h2 (fun z => a z.1)) ho.1 (fun z => absurd z (by decide)) (fun z => absurd z (by decide)) (fun z => absurd z (by decide)))
    · have he0 : e ≠ 0 := fun y => z (by rw [y]; rfl)
      have b4 := r_en_lt4 hf hcs hst hl (by decide) (show e - 1 < r_lst b 1 ct by omega) (r_col_0 (k := 1) (w := w))
      rw [show (1 : Int32) = nI 1 from rfl, pk_sub (by omega)]
      refine T_entryNumber (j := 0) hz ho hf ht hst hl (show e - 1 < r_lst b 1 ct by omega) r_col_0 (b_127_90 hJ (fun y => h2 (fun x => ?_)) ho.1 (fun y => tail _ _ a ?_))
      · have := (x.2.2 rfl).1
        rw [if_neg he0] at this
        rw [l_le (by omega) (by omega)] at y
        omega
      · rw [if_neg he0]
        rw [l_le (by omega) (by omega)] at y
        omega
    · have he0 : e = 0 := (nI_eq (a := e) (b := 0) (by omega) (by decide)).mp z
      have := (x.2.2 rfl).1
      rw [if_pos he0] at this
      rw [this]; rfl
    · have he0 : e = 0 := (nI_eq (a := e) (b := 0) (by omega) (by decide)).mp z
      rw [if_pos he0]
      rw [show (1 : Int64) = lN 1 from rfl, l_eq (by omega) (by decide)] at y
      exact y
  · rw [ht.2.1, r_ty_0 hk] at q
    subst q
    have b2 := r_en_lt hf hcs hst hl he (r_col_01 (w := w))
    refine T_isCount b0 (fun hc => b_127_40 hJ (fun z => absurd z (by decide)) ho.1 (fun _ => ?_)) (fun hc => b_127_40 hJ (fun _ => h2 (fun z => hc ⟨(z.2.1 rfl).1, z.1⟩)) ho.1 (fun z => absurd rfl z))
    exact T_entryNumber (j := 1) hz ho hf ht hst hl he r_col_01 (b_127_49 hJ (T_isTooMuch b2 (fun a => b_127_52 hJ (fun z => absurd rfl z) (fun _ => h1 ⟨hc.2, fun _ => ⟨hc.1, a⟩, fun y => absurd y (by decide)⟩)) (fun a => b_127_52 hJ (fun _ => h2 (fun z => a (z.2.1 rfl).2)) (fun z => absurd z (by decide)))))
  · rw [ht.2.1, r_ty_1 hk] at q1
    rw [ht.2.1, r_ty_0 hk] at q2
    exact T_isTooMuch b0 (fun a => b_127_127 hJ (fun z => absurd rfl z) (fun _ => h1 ⟨a, fun y => absurd y q2, fun y => absurd y q1⟩)) (fun a => b_127_127 hJ (fun _ => h2 (fun z => a z.1)) (fun z => absurd z (by decide)))
theorem T_ownFault (hz : zAll Z) (ho : zTb Z o) (hf : fC I 17 18 len b) (ht : tbC I o k w bx ct st) (hst : st ≤ len) (h0 : r_len b k w ct st → r_num b k w ct → Q (some (.int 0)) Z I G) (h4 : ¬ r_len b k w ct st → Q (some (.int 4)) Z I G) (h5 : r_len b k w ct st → ¬ r_num b k w ct → Q (some (.int 5)) Z I G) : aj_T (d + 4) mc ms 124 [.ref o] Z I G Q := by
  have hle := hf.2.1
  refine t_124 fun J hJ => b_124_0 hJ ho.1 (T_lengthIsRight hz ho hf ht hst (fun hl => b_124_4 hJ ho.1 (fun _ => ?_) (fun z => absurd z (by decide))) (fun hl => b_124_4 hJ ho.1 (fun z => absurd rfl z) (fun _ => h4 hl)))
  refine T_headIsRight hz ho hf ht hst hl (fun hh => b_124_13 hJ ho.1 (fun _ => ?_) (fun z => absurd z (by decide))) (fun hh => b_124_13 hJ ho.1 (fun z => absurd rfl z) (fun _ => h5 hl (fun z => hh z.1)))
  have hle2 := hl.2
  have hew := r_ew_le k w
  have hmul : r_lst b k ct * 1 ≤ r_lst b k ct * r_ew k w := Nat.mul_le_mul_left _ (by omega)
  refine T_listed hz ho hf ht hst hl (b_124_22 hJ ?_)
  have key : ∀ (m e : Nat), m + e = r_lst b k ct → (∀ i, i < e → r_ent b k w ct i) → J 25 [some (.ref o), some (.int (nI (r_lst b k ct))), some (.int (nI e))] [] Z I G (0, 0) := by
    intro m
    induction m with
    | zero =>
      intro e he hall
      have he : e = r_lst b k ct := by omega
      exact b_124_25 hJ (fun _ => h0 hl ⟨hh, fun i hi => hall i (by omega)⟩) ho.1 (fun z => absurd (nI_le (by omega) (by omega)) z)
    | succ m ih =>
      intro e he hall
      refine b_124_25 hJ (fun z => absurd z (nI_ge (by omega) (by omega))) ho.1 (fun _ => T_entryIsRight hz ho hf ht hst hl (by omega) (fun hr => b_124_35 hJ (fun _ => ?_) (fun z => absurd z (by decide))) (fun hr => b_124_35 hJ (fun z => absurd rfl z) (fun _ => h5 hl (fun z => hr (z.2 e (by omega))))))
      rw [nI_1]
      refine ih (e + 1) (by omega) (fun i hi => ?_)
      by_cases q : i = e
      · rw [q]; exact hr
      · exact hall i (by omega)
  exact key (r_lst b k ct) 0 rfl (fun i hi => absurd hi (Nat.not_lt_zero _))
theorem T_findTb (ho : zTb Z o) (hk : k < 4) (hcs : ct ≤ st) (hQ : ∀ I' : aj_I, (∀ a, a ≠ o → I' a = I a) → tbC I' o k w bx ct st → Q none Z I' G) : aj_T (d + 2) mc ms 118 [.ref o, .int (nI bx), .int (r_ty k w), .int (nI ct), .int (nI st)] Z I G Q := by
  have e2 : ∀ (h : Int32), (aj_u2 (aj_u2 (aj_u2 (aj_u2 (aj_u2 I o 1 (nI bx)) o 2 (r_ty k w)) o 3 (nI ct)) o 4 (nI st)) o 5 h) o 2 = r_ty k w := fun h => by
    rw [aj_u2_n2 (by decide), aj_u2_n2 (by decide), aj_u2_n2 (by decide), aj_u2_at]
  have e1 : (aj_u2 (aj_u2 (aj_u2 (aj_u2 I o 1 (nI bx)) o 2 (r_ty k w)) o 3 (nI ct)) o 4 (nI st)) o 2 = r_ty k w := by
    rw [aj_u2_n2 (by decide), aj_u2_n2 (by decide), aj_u2_at]
  refine t_118 fun J hJ => ?_
  have fin : ∀ (h : Int32), h = nI (r_hw k) → aj_T (d + 1) 0 0 119 [.int (r_ty k w)] Z (aj_u2 (aj_u2 (aj_u2 (aj_u2 (aj_u2 I o 1 (nI bx)) o 2 (r_ty k w)) o 3 (nI ct)) o 4 (nI st)) o 5 h) G (fun r Z1 I1 G1 => J 49 [some (.ref o), some (.int (nI bx)), some (.int (r_ty k w)), some (.int (nI ct)), some (.int (nI st))] (r.toList ++ [.ref o]) Z1 I1 G1 (0, 0)) := by
    intro h eh
    have put : ∀ (v : Int32), v = nI (r_ew k w) → J 49 [some (.ref o), some (.int (nI bx)), some (.int (r_ty k w)), some (.int (nI ct)), some (.int (nI st))] [.int v, .ref o] Z (aj_u2 (aj_u2 (aj_u2 (aj_u2 (aj_u2 I o 1 (nI bx)) o 2 (r_ty k w)) o 3 (nI ct)) o 4 (nI st)) o 5 h) G (0, 0) := by
      intro v hv
      refine b_118_49 hJ ho.1 (hQ _ (fun a ha => by rw [aj_u2_ne ha, aj_u2_ne ha, aj_u2_ne ha, aj_u2_ne ha, aj_u2_ne ha, aj_u2_ne ha]) ⟨?_, ?_, ?_, ?_, ?_, ?_, hcs, hk⟩)
      · rw [aj_u2_n2 (by decide), aj_u2_n2 (by decide), aj_u2_n2 (by decide), aj_u2_n2 (by decide), aj_u2_n2 (by decide), aj_u2_at]
      · rw [aj_u2_n2 (by decide), aj_u2_n2 (by decide), aj_u2_n2 (by decide), aj_u2_n2 (by decide), aj_u2_at]
      · rw [aj_u2_n2 (by decide), aj_u2_n2 (by decide), aj_u2_n2 (by decide), aj_u2_at]
      · rw [aj_u2_n2 (by decide), aj_u2_n2 (by decide), aj_u2_at]
      · rw [aj_u2_n2 (by decide), aj_u2_at]; exact eh
      · rw [aj_u2_at]; exact hv
    refine t_119 fun J2 hJ2 => b_119_0 hJ2 (fun q => put _ ?_) (fun _ q => put _ ?_) (fun _ _ q => put _ ?_) (fun q1 q2 q3 => put _ ?_)
    · rw [r_ty_3 hk] at q
      rw [q.1, q.2]; rfl
    · rw [r_ty_1 hk] at q
      rw [q]; rfl
    · rw [r_ty_0 hk] at q
      rw [q]; rfl
    · rw [r_ty_3 hk] at q1
      rw [r_ty_1 hk] at q2
      rw [r_ty_0 hk] at q3
      rcases r_k4 hk with h | h | h | h
      · exact absurd h q3
      · exact absurd h q2
      · rw [h]; rfl
      · cases hw : w
        · rw [h]; rfl
        · exact absurd ⟨h, hw⟩ q1
  refine b_118_0 hJ ho.1 (fun q => ?_) (fun q => ?_)
  · rw [e2]
    rw [e1, r_ty_2 hk] at q
    refine fin 8 ?_
    unfold r_hw
    rw [if_neg q]; rfl
  · rw [e2]
    rw [e1, r_ty_2 hk] at q
    refine fin 12 ?_
    unfold r_hw
    rw [if_pos q]; rfl
end RU
