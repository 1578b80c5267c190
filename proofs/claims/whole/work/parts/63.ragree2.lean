/-! read: the class's tables of a track agree; their samples written out -/
section RB
variable {Z : aj_Z} {I : aj_I} {G : aj_G} {Q : aj_Q} {len : Nat} {b : Nat → Nat} {o : Nat} {w : Bool} {bx ct st : Nat → Nat} {d mc ms : Nat}
theorem fn_sum_lt {f : Nat → Nat} {n m : Nat} (h : ∀ i, i < n → f i ≤ m) : fn_sum f n ≤ n * m := fn_sum_le n h
theorem T_tablesAgreeTB (hz : zAll Z) (ho : zTB Z o) (hf : fC I 17 18 len b) (ht : tkC I o w bx ct st len) (hr : s_ok b w ct st) (h1 : s_agr b w ct → Q (some (.int 1)) Z I G) (h2 : ¬ s_agr b w ct → Q (some (.int 0)) Z I G) : aj_T (d + 5) mc ms 144 [.ref o] Z I G Q := by
  have g2 := ho.2.2.2.2.2.2.2.2.2 2 (by decide)
  have t2 := ht 2 (by decide)
  have r2 := hr 2 (by decide)
  have g3 := ho.2.2.2.2.2.2.2.2.2 3 (by decide)
  have t3 := ht 3 (by decide)
  have r3 := hr 3 (by decide)
  have hn2 : s_n b ct < 2 ^ 31 := r2.2.1.2.1
  have hn3 : s_c b ct < 2 ^ 31 := r3.2.1.2.1
  have r0 := hr 0 (by decide)
  have r1 := hr 1 (by decide)
  have l0 := r_lst_le hf (ht 0 (by decide)).2 r0.1
  have hq : fn_sum (s_q b w ct) (r_lst b 0 (ct 0)) < 2 ^ 63 := by
    have h := fn_sum_lt (f := s_q b w ct) (n := r_lst b 0 (ct 0)) (m := 2 ^ 31) (fun i hi => Nat.le_of_lt (r0.2.2 i hi).1)
    have h' : r_lst b 0 (ct 0) * 2 ^ 31 ≤ 1200 * 2 ^ 31 := Nat.mul_le_mul_right _ l0
    omega
  refine t_144 fun J hJ => b_144_0 hJ ho.1 ho.2.1 ho.2.2.2.2.2.1 (vp_in_nI (n := 2) (by decide) (by decide)) g2.1 g2.2.1 (T_told hz g2.2 hf t2.1 t2.2 r2.1.1 (b_144_9 hJ ho.1 ho.2.1 ho.2.2.2.2.2.1 (vp_in_nI (n := 3) (by decide) (by decide)) g3.1 g3.2.1 (T_told hz g3.2 hf t3.1 t3.2 r3.1.1 (b_144_19 hJ (fun q => h2 (fun z => ?_)) ho.1 (fun q q2 => ?_) (fun q q2 => h2 (fun z => q2 ?_))))))
  · rw [show (16 : Int64) = lN 16 from rfl, show r_told b 2 (ct 2) = s_n b ct from rfl, l_lt (by decide) (by omega)] at q
    have := z.2.1
    omega
  · rw [show (16 : Int64) = lN 16 from rfl, show r_told b 2 (ct 2) = s_n b ct from rfl, l_lt (by decide) (by omega)] at q
    rw [show (16 : Int64) = lN 16 from rfl, show r_told b 3 (ct 3) = s_c b ct from rfl, l_le (by omega) (by decide)] at q2
    have hnn : s_n b ct ≤ 16 := by omega
    show aj_T (d + 4) 0 0 145 [.ref o] Z I G (fun r Z1 I1 G1 => J 42 [some (.ref o), some (.long (lN (s_n b ct))), (aj_clr none), some (.long (lN (s_c b ct))), none] (r.toList ++ []) Z1 I1 G1 (0, 0))
    refine T_samplesOfStts hz ho hf ht hr (b_144_42 hJ (fun z => h2 (fun y => z (by rw [y.1]))) ho.1 (fun z => ?_))
    rw [l_eq hq (by omega)] at z
    rw [lN_i]
    refine T_sizesAreSmall hz ho hf ht hr hnn (fun hs => b_144_53 hJ (fun y => absurd y (by decide)) ho.1 (fun _ => ?_)) (fun hs => b_144_53 hJ (fun _ => h2 (fun y => hs y.2.2.2.2.1)) ho.1 (fun y => absurd rfl y))
    rw [lN_i]
    refine T_entriesMeet hz ho hf ht hr q2 (fun m1 m2 => b_144_62 hJ (fun y => absurd y (by decide)) ho.1 (fun _ => ?_)) (fun hm => b_144_62 hJ (fun _ => h2 (fun y => hm ⟨y.2.2.2.1, y.2.2.2.2.2.1⟩)) ho.1 (fun y => absurd rfl y))
    rw [lN_i]
    have hpk : fn_sum (s_pk b w ct) (s_c b ct) < 2 ^ 63 := by
      have hp : ∀ c m, m ≤ r_lst b 1 (ct 1) → s_pc (s_F b w ct) (s_P b w ct) c m ≤ 2 ^ 31 := by
        intro c m
        induction m with
        | zero => intro _; exact Nat.zero_le _
        | succ m ih =>
          intro hm
          show (if s_F b w ct m ≤ c then s_P b w ct m else s_pc (s_F b w ct) (s_P b w ct) c m) ≤ _
          split
          · exact Nat.le_of_lt ((r1.2.2 m hm).2.2 rfl).2.2.1
          · exact ih (by omega)
      have h := fn_sum_lt (f := s_pk b w ct) (n := s_c b ct) (m := 2 ^ 31) (fun i hi => hp _ _ (Nat.le_refl _))
      have h' : s_c b ct * 2 ^ 31 ≤ 16 * 2 ^ 31 := Nat.mul_le_mul_right _ q2
      omega
    refine T_samplesOfChunks hz ho hf ht hr q2 m1 m2 (b_144_71 hJ (fun y => h2 (fun x => y (by rw [x.2.2.2.2.2.2]))) (fun y => h1 ⟨z, hnn, q2, m1, hs, m2, ?_⟩))
    rw [l_eq hpk (by omega)] at y
    exact y
  · rw [show (16 : Int64) = lN 16 from rfl, show r_told b 3 (ct 3) = s_c b ct from rfl, l_le (by omega) (by decide)]
    exact z.2.2.1
end RB
/-- the duration of sample j by the first e rows -/
def s_du (q v : Nat → Nat) (j : Nat) : Nat → Nat
  | 0 => 0
  | e + 1 => if fn_sum q e ≤ j ∧ j < fn_sum q (e + 1) then v e else s_du q v j e
/-- where sample j begins by the first c chunks -/
def s_bg (p L S : Nat → Nat) (j : Nat) : Nat → Nat
  | 0 => 0
  | c + 1 => if fn_sum p c ≤ j ∧ j < fn_sum p (c + 1) then L c + w_cb S (fn_sum p c) (j - fn_sum p c) else s_bg p L S j c
theorem fn_sum_mono (f : Nat → Nat) {a : Nat} : ∀ d, fn_sum f a ≤ fn_sum f (a + d)
  | 0 => Nat.le_refl _
  | d + 1 => Nat.le_trans (fn_sum_mono f d) (Nat.le_add_right _ _)
theorem s_du_at {q v : Nat → Nat} {j e : Nat} (h1 : fn_sum q e ≤ j) (h2 : j < fn_sum q (e + 1)) : ∀ d, s_du q v j (e + 1 + d) = v e
  | 0 => by
    show (if fn_sum q e ≤ j ∧ j < fn_sum q (e + 1) then v e else s_du q v j e) = _
    rw [if_pos ⟨h1, h2⟩]
  | d + 1 => by
    show (if fn_sum q (e + 1 + d) ≤ j ∧ j < fn_sum q (e + 1 + d + 1) then v (e + 1 + d) else s_du q v j (e + 1 + d)) = _
    have := fn_sum_mono q (a := e + 1) d
    rw [if_neg (by omega)]
    exact s_du_at h1 h2 d
theorem s_bg_at {p L S : Nat → Nat} {j c : Nat} (h1 : fn_sum p c ≤ j) (h2 : j < fn_sum p (c + 1)) : ∀ d, s_bg p L S j (c + 1 + d) = L c + w_cb S (fn_sum p c) (j - fn_sum p c)
  | 0 => by
    show (if fn_sum p c ≤ j ∧ j < fn_sum p (c + 1) then L c + w_cb S (fn_sum p c) (j - fn_sum p c) else s_bg p L S j c) = _
    rw [if_pos ⟨h1, h2⟩]
  | d + 1 => by
    show (if fn_sum p (c + 1 + d) ≤ j ∧ j < fn_sum p (c + 1 + d + 1) then L (c + 1 + d) + w_cb S (fn_sum p (c + 1 + d)) (j - fn_sum p (c + 1 + d)) else s_bg p L S j (c + 1 + d)) = _
    have := fn_sum_mono p (a := c + 1) d
    rw [if_neg (by omega)]
    exact s_bg_at h1 h2 d
def s_D (b : Nat → Nat) (w : Bool) (ct : Nat → Nat) (j : Nat) : Nat := s_du (s_q b w ct) (s_v b w ct) j (r_lst b 0 (ct 0))
def s_G (b : Nat → Nat) (w : Bool) (ct : Nat → Nat) (j : Nat) : Nat := s_bg (s_pk b w ct) (s_L b w ct) (s_S b w ct) j (s_c b ct)
def s_in (b : Nat → Nat) (w : Bool) (ct : Nat → Nat) (lo hi : Nat) : Prop := ∀ i, i < s_n b ct → 0 < s_S b w ct i → lo ≤ s_G b w ct i ∧ s_G b w ct i + s_S b w ct i ≤ hi
