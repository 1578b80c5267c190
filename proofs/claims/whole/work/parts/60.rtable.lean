/-! read: a table, what it tells -/
theorem l_toInt {n : Nat} (h : n < 2 ^ 63) : (lN n).toInt = (n : Int) := lg_ofNat_toInt h
theorem l_le {a b : Nat} (ha : a < 2 ^ 63) (hb : b < 2 ^ 63) : lN a ≤ lN b ↔ a ≤ b := by
  rw [Int64.le_iff_toInt_le, l_toInt ha, l_toInt hb]; omega
theorem l_lt {a b : Nat} (ha : a < 2 ^ 63) (hb : b < 2 ^ 63) : lN a < lN b ↔ a < b := by
  rw [Int64.lt_iff_toInt_lt, l_toInt ha, l_toInt hb]; omega
theorem l_eq {a b : Nat} (ha : a < 2 ^ 63) (hb : b < 2 ^ 63) : lN a = lN b ↔ a = b := by
  rw [← Int64.toInt_inj, l_toInt ha, l_toInt hb]; omega
theorem l_neg {n : Nat} (h : 2 ^ 63 ≤ n) (h2 : n < 2 ^ 64) : lN n < 0 := by
  have e1 : lN n + lN (2 ^ 64 - n) = lN 0 := by rw [lN_add, wb_mod, show n + (2 ^ 64 - n) = 2 ^ 64 by omega]
  have e2 : lN n = 0 - lN (2 ^ 64 - n) := by
    rw [← Int64.add_sub_cancel (a := lN n) (b := lN (2 ^ 64 - n)), e1]; rfl
  rw [Int64.lt_iff_toInt_lt]
  have hb := Int64.toInt_lt (lN n)
  have h3 : (lN n).toInt = (n : Int).bmod (2 ^ 64) := by
    show (Int64.ofNat n).toInt = _
    rw [Int64.toInt_ofNat']
  rw [h3, Int.bmod_def]
  have : ((n : Int) % (2 ^ 64 : Nat)) = n := by omega
  split <;> simp at * <;> omega
def r_ty (k : Nat) (w : Bool) : Int32 := if k = 0 then 1937011827 else if k = 1 then 1937011555 else if k = 2 then 1937011578 else if w then 1668232756 else 1937007471
def r_hw (k : Nat) : Nat := if k = 2 then 12 else 8
def r_ew (k : Nat) (w : Bool) : Nat := if k = 0 then 8 else if k = 1 then 12 else if k = 2 then 4 else if w then 8 else 4
def r_nw (k : Nat) (w : Bool) : Nat := if k = 3 ∧ w = true then 8 else 4
def r_told (b : Nat → Nat) (k ct : Nat) : Nat := fn_nb b (ct + r_hw k - 4) 4
def r_sfa (b : Nat → Nat) (k ct : Nat) : Nat := if k = 2 then fn_nb b (ct + 4) 4 else 0
def r_lst (b : Nat → Nat) (k ct : Nat) : Nat := if r_sfa b k ct = 0 then r_told b k ct else 0
def r_en (b : Nat → Nat) (k : Nat) (w : Bool) (ct e j : Nat) : Nat := fn_nb b (ct + r_hw k + e * r_ew k w + 4 * j) (r_nw k w)
def r_len (b : Nat → Nat) (k : Nat) (w : Bool) (ct st : Nat) : Prop := r_hw k ≤ st - ct ∧ st - ct = r_hw k + r_lst b k ct * r_ew k w
def r_hd (b : Nat → Nat) (k ct : Nat) : Prop := fn_nb b ct 4 = 0 ∧ r_told b k ct < 2 ^ 31 ∧ r_sfa b k ct < 2 ^ 31
def r_ent (b : Nat → Nat) (k : Nat) (w : Bool) (ct e : Nat) : Prop := r_en b k w ct e 0 < 2 ^ 31 ∧ (k = 0 → 1 ≤ r_en b k w ct e 0 ∧ r_en b k w ct e 1 < 2 ^ 31) ∧ (k = 1 → (if e = 0 then r_en b k w ct e 0 = 1 else r_en b k w ct (e - 1) 0 < r_en b k w ct e 0) ∧ 1 ≤ r_en b k w ct e 1 ∧ r_en b k w ct e 1 < 2 ^ 31 ∧ r_en b k w ct e 2 = 1)
def r_num (b : Nat → Nat) (k : Nat) (w : Bool) (ct : Nat) : Prop := r_hd b k ct ∧ ∀ e, e < r_lst b k ct → r_ent b k w ct e
theorem r_k4 {k : Nat} (h : k < 4) : k = 0 ∨ k = 1 ∨ k = 2 ∨ k = 3 := by omega
theorem r_ty_2 {k : Nat} {w : Bool} (h : k < 4) : r_ty k w = 1937011578 ↔ k = 2 := by rcases r_k4 h with h | h | h | h <;> subst h <;> cases w <;> decide
theorem r_ty_0 {k : Nat} {w : Bool} (h : k < 4) : r_ty k w = 1937011827 ↔ k = 0 := by rcases r_k4 h with h | h | h | h <;> subst h <;> cases w <;> decide
theorem r_ty_1 {k : Nat} {w : Bool} (h : k < 4) : r_ty k w = 1937011555 ↔ k = 1 := by rcases r_k4 h with h | h | h | h <;> subst h <;> cases w <;> decide
theorem r_ty_3 {k : Nat} {w : Bool} (h : k < 4) : r_ty k w = 1668232756 ↔ (k = 3 ∧ w = true) := by rcases r_k4 h with h | h | h | h <;> subst h <;> cases w <;> decide
theorem r_hw_le (k : Nat) : 8 ≤ r_hw k ∧ r_hw k ≤ 12 := by unfold r_hw; split <;> omega
theorem r_ew_le (k : Nat) (w : Bool) : 4 ≤ r_ew k w ∧ r_ew k w ≤ 12 := by unfold r_ew; split <;> (try split) <;> (try split) <;> (try split) <;> omega
theorem r_nw_le (k : Nat) (w : Bool) : r_nw k w ≤ 8 ∧ r_nw k w ≤ r_ew k w := by
  unfold r_nw r_ew
  by_cases h : k = 3
  · subst h; cases w <;> decide
  · rw [if_neg (fun q => h q.1)]; split <;> (try split) <;> (try split) <;> (try split) <;> omega
/-- all columns of an entry lie in it -/
def r_col (k : Nat) (w : Bool) (j : Nat) : Prop := 4 * j + r_nw k w ≤ r_ew k w
def tbC (I : aj_I) (o k : Nat) (w : Bool) (bx ct st : Nat) : Prop := I o 1 = nI bx ∧ I o 2 = r_ty k w ∧ I o 3 = nI ct ∧ I o 4 = nI st ∧ I o 5 = nI (r_hw k) ∧ I o 6 = nI (r_ew k w) ∧ ct ≤ st ∧ k < 4
def zTb (Z : aj_Z) (o : Nat) : Prop := Z.2.1 o = some (.inl 7) ∧ Z.2.2 o 0 = .ref 17
section RT
variable {Z : aj_Z} {I : aj_I} {G : aj_G} {Q : aj_Q} {len : Nat} {b : Nat → Nat} {o k : Nat} {w : Bool} {bx ct st : Nat} {d mc ms : Nat}
theorem T_isTooMuch {n : Nat} (hn : n < 2 ^ 64) (h1 : n < 2 ^ 31 → Q (some (.int 0)) Z I G) (h2 : ¬ n < 2 ^ 31 → Q (some (.int 1)) Z I G) : aj_T (d + 1) mc ms 17 [.long (lN n)] Z I G Q := by
  have e0 : (0 : Int64) = lN 0 := rfl
  have eM : (2147483647 : Int64) = lN 2147483647 := rfl
  rcases Nat.lt_or_ge n (2 ^ 63) with h | h
  · refine t_17 fun J hJ => b_17_0 hJ (fun q => ?_) (fun _ q => h1 ?_) (fun _ q => h2 (fun z => q ?_))
    · rw [e0, l_lt h (by decide)] at q; omega
    · rw [eM, l_le h (by decide)] at q; omega
    · rw [eM, l_le h (by decide)]; omega
  · have hneg := l_neg h hn
    exact t_17 fun J hJ => b_17_0 hJ (fun q => h2 (by omega)) (fun q => absurd hneg q) (fun q => absurd hneg q)
theorem T_isCount {n : Nat} (hn : n < 2 ^ 64) (h1 : 1 ≤ n ∧ n < 2 ^ 31 → Q (some (.int 1)) Z I G) (h2 : ¬ (1 ≤ n ∧ n < 2 ^ 31) → Q (some (.int 0)) Z I G) : aj_T (d + 2) mc ms 128 [.long (lN n)] Z I G Q := by
  have e1 : (1 : Int64) = lN 1 := rfl
  refine t_128 fun J hJ => b_128_0 hJ (fun q => h2 (fun z => ?_)) (fun q => T_isTooMuch hn (fun a => b_128_10 hJ (fun z => absurd rfl z) (fun _ => h1 ⟨?_, a⟩)) (fun a => b_128_10 hJ (fun _ => h2 (fun z => a z.2)) (fun z => absurd z (by decide))))
  · rw [e1, l_lt (by omega) (by decide)] at q; omega
  · rw [e1, l_lt (by omega) (by decide)] at q; omega
theorem T_numF (hz : zAll Z) (hf : fC I 17 18 len b) {p v : Nat} (hp : p + v ≤ len) (hv : v ≤ 8) (hQ : Q (some (.long (lN (fn_nb b p v)))) Z I G) : aj_T (d + 1) mc ms 86 [.ref 17, .int (nI p), .int (nI v)] Z I G Q := T_number (zBR_f hz) hf hp hv hQ
theorem T_told (hz : zAll Z) (ho : zTb Z o) (hf : fC I 17 18 len b) (ht : tbC I o k w bx ct st) (hst : st ≤ len) (hh : r_hw k ≤ st - ct) (hQ : Q (some (.long (lN (r_told b k ct)))) Z I G) : aj_T (d + 2) mc ms 120 [.ref o] Z I G Q := by
  have hw := r_hw_le k
  refine t_120 fun J hJ => b_120_0 hJ ho.1 ho.2 (zk_17 hz) ?_
  rw [ht.2.2.1, ht.2.2.2.2.1, nI_add, show (4 : Int32) = nI 4 from rfl, pk_sub (by omega)]
  exact T_numF hz hf (by omega) (by decide) (b_120_19 hJ hQ)
theorem T_sizeForAll (hz : zAll Z) (ho : zTb Z o) (hf : fC I 17 18 len b) (ht : tbC I o k w bx ct st) (hst : st ≤ len) (hh : r_hw k ≤ st - ct) (hQ : Q (some (.long (lN (r_sfa b k ct)))) Z I G) : aj_T (d + 2) mc ms 121 [.ref o] Z I G Q := by
  have hw := r_hw_le k
  unfold r_sfa at hQ
  refine t_121 fun J hJ => b_121_0 hJ ho.1 (fun q => ?_) ho.2 (zk_17 hz) (fun q => ?_)
  · rw [ht.2.1, r_ty_2 ht.2.2.2.2.2.2.2] at q
    rw [if_neg q] at hQ
    exact hQ
  · rw [ht.2.1, r_ty_2 ht.2.2.2.2.2.2.2] at q
    rw [if_pos q] at hQ
    rw [ht.2.2.1, show nI ct + 4 = nI (ct + 4) from nI_add ct 4]
    exact T_numF (v := 4) hz hf (by omega) (by decide) (b_121_23 hJ hQ)
theorem fC.nb4 {I : aj_I} (hf : fC I 17 18 len b) {p : Nat} (hp : p + 4 ≤ len) : fn_nb b p 4 < 4294967296 := fn_nb_4 (fun j hj => (hf.2.2 (p + j) (by omega)).1)
theorem fC.nb8 {I : aj_I} (hf : fC I 17 18 len b) {p v : Nat} (hp : p + v ≤ len) (hv : v = 4 ∨ v = 8) : fn_nb b p v < 2 ^ 64 := by
  rcases hv with h | h
  · subst h; have := hf.nb4 hp; omega
  · subst h; exact fn_nb_8 (fun j hj => (hf.2.2 (p + j) (by omega)).1)
theorem r_told_lt {I : aj_I} (hf : fC I 17 18 len b) (hst : st ≤ len) (hh : r_hw k ≤ st - ct) : r_told b k ct < 4294967296 := by
  have hw := r_hw_le k
  exact hf.nb4 (by omega)
theorem r_sfa_lt {I : aj_I} (hf : fC I 17 18 len b) (hst : st ≤ len) (hh : r_hw k ≤ st - ct) : r_sfa b k ct < 4294967296 := by
  have hw := r_hw_le k
  unfold r_sfa
  split
  · exact hf.nb4 (by omega)
  · decide
theorem T_listed (hz : zAll Z) (ho : zTb Z o) (hf : fC I 17 18 len b) (ht : tbC I o k w bx ct st) (hst : st ≤ len) (hl : r_len b k w ct st) (hQ : Q (some (.int (nI (r_lst b k ct)))) Z I G) : aj_T (d + 3) mc ms 122 [.ref o] Z I G Q := by
  have hle := hf.2.1
  have hcs := ht.2.2.2.2.2.2.1
  have hs := r_sfa_lt hf hst hl.1
  have htl := r_told_lt hf hst hl.1
  have hew := r_ew_le k w
  refine t_122 fun J hJ => b_122_0 hJ ho.1 (T_sizeForAll hz ho hf ht hst hl.1 (b_122_14 hJ ho.1 (fun q => T_told hz ho hf ht hst hl.1 (b_122_27 hJ ?_)) (fun q => ?_)))
  · rw [show (0 : Int64) = lN 0 from rfl, l_eq (by omega) (by decide)] at q
    have e : r_lst b k ct = r_told b k ct := if_pos q
    have h2 := hl.2
    rw [e] at h2 hQ
    have hmul : r_told b k ct * 1 ≤ r_told b k ct * r_ew k w := Nat.mul_le_mul_left _ (by omega)
    rw [ht.2.2.2.1, ht.2.2.1, pk_sub hcs, nI_l (by omega), if_neg (by rw [l_lt (by omega) (by omega)]; omega), lN_i]
    exact hQ
  · rw [show (0 : Int64) = lN 0 from rfl, l_eq (by omega) (by decide)] at q
    have e : r_lst b k ct = 0 := if_neg q
    rw [e] at hQ
    exact hQ
theorem r_in {e j : Nat} (hcs : ct ≤ st) (hst : st ≤ len) (hl : r_len b k w ct st) (he : e < r_lst b k ct) (hj : r_col k w j) : ct + r_hw k + e * r_ew k w + 4 * j + r_nw k w ≤ len := by
  have h2 := hl.2
  have h3 : (e + 1) * r_ew k w ≤ r_lst b k ct * r_ew k w := Nat.mul_le_mul_right _ he
  rw [Nat.add_mul, Nat.one_mul] at h3
  unfold r_col at hj
  omega
theorem T_entryNumber (hz : zAll Z) (ho : zTb Z o) (hf : fC I 17 18 len b) (ht : tbC I o k w bx ct st) (hst : st ≤ len) (hl : r_len b k w ct st) {e j : Nat} (he : e < r_lst b k ct) (hj : r_col k w j) (hQ : Q (some (.long (lN (r_en b k w ct e j)))) Z I G) : aj_T (d + 2) mc ms 123 [.ref o, .int (nI e), .int (nI j)] Z I G Q := by
  have hin := r_in ht.2.2.2.2.2.2.1 hst hl he hj
  have hk := ht.2.2.2.2.2.2.2
  have e1 : I o 3 + I o 5 + nI e * I o 6 + 4 * nI j = nI (ct + r_hw k + e * r_ew k w + 4 * j) := by
    rw [ht.2.2.1, ht.2.2.2.2.1, ht.2.2.2.2.2.1, pk_mul, show (4 : Int32) * nI j = nI (4 * j) from pk_mul 4 j, nI_add, nI_add, nI_add]
  refine t_123 fun J hJ => b_123_0 hJ ho.1 ho.2 (zk_17 hz) (fun q => ?_) (fun q => ?_)
  · rw [ht.2.1, r_ty_3 hk] at q
    have en : r_nw k w = 4 := if_neg q
    unfold r_en at hQ
    rw [en] at hQ hin
    rw [e1]
    exact T_numF (v := 4) hz hf hin (by decide) (b_123_44 hJ hQ)
  · rw [ht.2.1, r_ty_3 hk] at q
    have en : r_nw k w = 8 := if_pos q
    unfold r_en at hQ
    rw [en] at hQ hin
    rw [e1]
    exact T_numF (v := 8) hz hf hin (by decide) (b_123_44 hJ hQ)
theorem T_lengthIsRight (hz : zAll Z) (ho : zTb Z o) (hf : fC I 17 18 len b) (ht : tbC I o k w bx ct st) (hst : st ≤ len) (h1 : r_len b k w ct st → Q (some (.int 1)) Z I G) (h2 : ¬ r_len b k w ct st → Q (some (.int 0)) Z I G) : aj_T (d + 3) mc ms 125 [.ref o] Z I G Q := by
  have hle := hf.2.1
  have hcs := ht.2.2.2.2.2.2.1
  have hw := r_hw_le k
  have hew := r_ew_le k w
  have er : Int32.toInt64 (I o 4 - I o 3) = lN (st - ct) := by rw [ht.2.2.2.1, ht.2.2.1, pk_sub hcs, nI_l (by omega)]
  have eh : Int32.toInt64 (I o 5) = lN (r_hw k) := by rw [ht.2.2.2.2.1, nI_l (by omega)]
  refine t_125 fun J hJ => b_125_0 hJ ho.1 (fun q => ?_) (fun q => h2 (fun z => q ?_))
  · rw [er, eh, l_le (by omega) (by omega)] at q
    have hs := r_sfa_lt hf hst q
    have htl := r_told_lt hf hst q
    have hmul : r_told b k ct * r_ew k w ≤ 4294967296 * 12 := Nat.mul_le_mul (by omega) hew.2
    have fin : ∀ (m : Nat), m < 2 ^ 62 → m = r_lst b k ct * r_ew k w → J 46 [some (.ref o), some (.long (lN (st - ct))), none, none, none] [.long (lN m)] Z I G (0, 0) := by
      intro m hm em
      refine b_125_46 hJ ho.1 (fun z => h2 (fun y => z ?_)) (fun z => h1 ⟨q, ?_⟩)
      · rw [eh, lN_add, em, ← y.2]
      · rw [eh, lN_add, l_eq (by omega) (by omega)] at z
        rw [← em]; exact z
    rw [er]
    refine T_sizeForAll hz ho hf ht hst q (b_125_27 hJ ho.1 (fun z => T_told hz ho hf ht hst q (b_125_40 hJ ho.1 ?_)) (fun z => ?_))
    · rw [show (0 : Int64) = lN 0 from rfl, l_eq (by omega) (by decide)] at z
      rw [ht.2.2.2.2.2.1, nI_l (by omega), lN_mul]
      refine fin _ (by omega) ?_
      rw [show r_lst b k ct = r_told b k ct from if_pos z]
    · rw [show (0 : Int64) = lN 0 from rfl, l_eq (by omega) (by decide)] at z
      refine fin 0 (by decide) ?_
      rw [show r_lst b k ct = 0 from if_neg z, Nat.zero_mul]
  · rw [er, eh, l_le (by omega) (by omega)]; exact z.1
theorem T_headIsRight (hz : zAll Z) (ho : zTb Z o) (hf : fC I 17 18 len b) (ht : tbC I o k w bx ct st) (hst : st ≤ len) (hl : r_len b k w ct st) (h1 : r_hd b k ct → Q (some (.int 1)) Z I G) (h2 : ¬ r_hd b k ct → Q (some (.int 0)) Z I G) : aj_T (d + 3) mc ms 126 [.ref o] Z I G Q := by
  have hw := r_hw_le k
  have hh := hl.1
  have hs := r_sfa_lt hf hst hl.1
  have htl := r_told_lt hf hst hl.1
  have hz4 := hf.nb4 (p := ct) (by omega)
  refine t_126 fun J hJ => b_126_0 hJ ho.1 ho.2 (zk_17 hz) ?_
  rw [ht.2.2.1]
  refine T_numF (v := 4) hz hf (by omega) (by decide) (b_126_12 hJ (fun q => h2 (fun z => q (by rw [z.1]; rfl))) ho.1 (fun q => ?_))
  rw [show (0 : Int64) = lN 0 from rfl, l_eq (by omega) (by decide)] at q
  refine T_told hz ho hf ht hst hl.1 (b_126_21 hJ (T_isTooMuch (by omega) (fun a => b_126_24 hJ (fun z => absurd rfl z) ho.1 (fun _ => ?_)) (fun a => b_126_24 hJ (fun _ => h2 (fun z => a z.2.1)) ho.1 (fun z => absurd z (by decide)))))
  exact T_sizeForAll hz ho hf ht hst hl.1 (b_126_31 hJ (T_isTooMuch (by omega) (fun c => b_126_34 hJ (fun z => absurd rfl z) (fun _ => h1 ⟨q, a, c⟩)) (fun c => b_126_34 hJ (fun _ => h2 (fun z => c z.2.2)) (fun z => absurd z (by decide)))))
end RT
