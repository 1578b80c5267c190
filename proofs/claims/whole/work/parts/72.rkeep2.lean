/-! read: the class keeps a table -/
theorem tbC_w {I : aj_I} {o k : Nat} {w : Bool} (w' : Bool) {bx ct st : Nat} (hk : k ≠ 3) (h : tbC I o k w bx ct st) : tbC I o k w' bx ct st := by
  have h8 := h.2.2.2.2.2.2.2
  have e1 : r_ty k w = r_ty k w' := by rcases r_k4 h8 with q | q | q | q <;> first | exact absurd q hk | (subst q; rfl)
  have e2 : r_ew k w = r_ew k w' := by rcases r_k4 h8 with q | q | q | q <;> first | exact absurd q hk | (subst q; rfl)
  unfold tbC at h ⊢
  rw [← e1, ← e2]
  exact h
section RL
variable {Z : aj_Z} {I : aj_I} {G : aj_G} {Q : aj_Q} {len : Nat} {b : Nat → Nat} {s : r_ps} {d mc ms : Nat}
theorem T_keepTable (hz : zAll Z) (zc : zCur Z) (hlen : len ≤ 1200) (hB : r_B len (ps_lv s) s) (hC : fdC Z I s) (hl : ps_lv s = 3) {ty : Int32} {ct e : Nat} (h13 : I 21 13 = ty) (h14 : I 21 14 = nI ct) (h15 : I 21 15 = nI e) (hce : ct ≤ e)
    (h0 : r_note s ty ct e = none → Q (some (.int 0)) Z I G) (h1 : ∀ (s' : r_ps) (I' : aj_I), r_note s ty ct e = some s' → (∀ a, a ≤ 24 ∨ 52 ≤ a → I' a = I a) → fdC Z I' s' → Q (some (.int 1)) Z I' G) : aj_T (d + 3) mc ms 98 [.ref 21] Z I G Q := by
  obtain ⟨q, c1, c2, c3⟩ := r_cur hz zc hC
  have hf1 := hB.2.1 (by omega)
  have hf3 := hB.1
  have eq := c3 hf1
  subst eq
  have ho := zTB_t hz (t := ps_fd s - 1) (by omega)
  have hT := hC.2.2.2.2.2.2.2.2 (ps_fd s - 1) (by omega)
  have hb := hB.2.2.2.1 (ps_fd s - 1) (by omega)
  have en : r_note s ty ct e = match r_tab ty with
      | none => some s
      | some (k, w) => if ps_tb s (ps_fd s - 1) k = none then some (s.1, s.2.1, s.2.2.1, s.2.2.2.1, ps_fd s, ps_p s, ps_sb s, aj_u2 (ps_tb s) (ps_fd s - 1) k (some (ps_p s, ct, e)), if k = 3 then va_up (ps_wd s) (ps_fd s - 1) w else ps_wd s) else none := by
    unfold r_note
    rw [if_neg (by omega), if_neg (by omega), if_neg (by omega)]
    cases r_tab ty with
    | none => rfl
    | some x => rfl
  refine t_98 fun J hJ => b_98_0 hJ (zk_21 hz) c1 c2 ?_
  rw [h13]
  refine T_tableFor ho (fun h => b_98_11N hJ (h1 s I ?_ (fun _ _ => rfl) hC)) (fun k w h => ?_)
  · rw [en, h]
  · have hk := (r_tab_b h).1
    have g := ho.2.2.2.2.2.2.2.2.2 k hk
    rw [h] at en
    refine b_98_11 hJ g.2.1 (T_isFound g.2 (x := (ps_tb s (ps_fd s - 1) k).map (fun x => x.1)) (fun p hp => ?_) (hT.2 k hk).1 (fun x => b_98_22 hJ (zk_21 hz) g.2.1 (fun _ => ?_) (fun z => absurd rfl z)) (fun x => b_98_22 hJ (zk_21 hz) g.2.1 (fun z => absurd z (by decide)) (fun _ => h0 ?_)))
    · cases y : ps_tb s (ps_fd s - 1) k with
      | none => simp [y] at hp
      | some v =>
        simp [y] at hp
        have := (hb.2 k hk v y).1
        omega
    · have x : ps_tb s (ps_fd s - 1) k = none := by
        cases y : ps_tb s (ps_fd s - 1) k with
        | none => rfl
        | some v => simp [y] at x
      have en : r_note s ty ct e = some (s.1, s.2.1, s.2.2.1, s.2.2.2.1, ps_fd s, ps_p s, ps_sb s, aj_u2 (ps_tb s) (ps_fd s - 1) k (some (ps_p s, ct, e)), if k = 3 then va_up (ps_wd s) (ps_fd s - 1) w else ps_wd s) := by rw [en]; exact if_pos x
      rw [hC.2.2.2.2.2.2.1, h13, h14, h15, (r_tab_b h).2]
      refine T_findTb g.2 hk hce (fun I' hfr htb => b_98_47 hJ (h1 _ I' en (fun a ha => hfr a (by omega)) ?_))
      have f21 := hfr 21 (by omega)
      have f23 := hfr 23 (by omega)
      have f24 := hfr 24 (by omega)
      obtain ⟨d1, d2, d3, d4, d5, d6, d7, d8, d9⟩ := hC
      refine ⟨by rw [f21]; exact d1, by rw [f23, f24]; exact d2, by rw [f21]; exact d3, by rw [f21]; exact d4, by rw [f21]; exact d5, by rw [f21]; exact d6, by rw [f21]; exact d7, d8, fun t ht => ?_⟩
      have ht : t < ps_fd s := ht
      refine ⟨by rw [hfr _ (by omega)]; exact (d9 t ht).1, fun j hj => ?_⟩
      show I' (25 + 9 * t + 5 + j) 1 = oN ((aj_u2 (ps_tb s) (ps_fd s - 1) k (some (ps_p s, ct, e)) t j).map (fun x => x.1)) ∧ ∀ x, aj_u2 (ps_tb s) (ps_fd s - 1) k (some (ps_p s, ct, e)) t j = some x → tbC I' (25 + 9 * t + 5 + j) j ((if k = 3 then va_up (ps_wd s) (ps_fd s - 1) w else ps_wd s) t) x.1 x.2.1 x.2.2
      by_cases y : t = ps_fd s - 1 ∧ j = k
      · obtain ⟨y1, y2⟩ := y
        subst y1; subst y2
        rw [aj_u2_at]
        refine ⟨htb.1, fun x hx => ?_⟩
        cases hx
        by_cases z : j = 3
        · rw [if_pos z, aj_up_eq]; exact htb
        · rw [if_neg z]; exact tbC_w _ z htb
      · have hne : aj_u2 (ps_tb s) (ps_fd s - 1) k (some (ps_p s, ct, e)) t j = ps_tb s t j := by
          by_cases y1 : t = ps_fd s - 1
          · rw [y1, aj_u2_n2 (fun z => y ⟨y1, z⟩)]
          · rw [aj_u2_ne y1]
        have hI : I' (25 + 9 * t + 5 + j) = I (25 + 9 * t + 5 + j) := hfr _ (by omega)
        have hold := (d9 t ht).2 j hj
        rw [hne, hI]
        refine ⟨hold.1, fun x hx => ?_⟩
        have h2 : tbC I' (25 + 9 * t + 5 + j) j (ps_wd s t) x.1 x.2.1 x.2.2 := by
          have := hold.2 x hx
          unfold tbC at this ⊢
          rw [hI]; exact this
        by_cases z : k = 3
        · rw [if_pos z]
          by_cases y1 : t = ps_fd s - 1
          · exact tbC_w _ (fun z2 => y ⟨y1, by omega⟩) h2
          · rw [aj_up_ne y1]; exact h2
        · rw [if_neg z]; exact h2
    · rw [en]
      refine if_neg (fun y => x ?_)
      rw [y]; rfl
end RL
