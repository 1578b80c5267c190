/-! read: the class keeps a box -/
section RK
variable {Z : aj_Z} {I : aj_I} {G : aj_G} {Q : aj_Q} {len : Nat} {b : Nat → Nat} {s : r_ps} {d mc ms : Nat}
theorem T_tableOfType {ty : Int32} (h0 : r_tab ty = none → Q (some (.int (-1))) Z I G) (h1 : ∀ k w, r_tab ty = some (k, w) → Q (some (.int (nI k))) Z I G) : aj_T (d + 1) mc ms 18 [.int ty] Z I G Q := by
  refine t_18 fun J hJ => b_18_0 hJ (fun q => h1 3 true ?_) (fun a q => h1 3 false ?_) (fun a1 a2 q => h1 1 false ?_) (fun a1 a2 a3 q => h1 2 false ?_) (fun a1 a2 a3 a4 q => h1 0 false ?_) (fun a1 a2 a3 a4 a5 => h0 ?_)
  · unfold r_tab; rw [if_pos q]
  · unfold r_tab; rw [if_neg a, if_pos q]
  · unfold r_tab; rw [if_neg a1, if_neg a2, if_pos q]
  · unfold r_tab; rw [if_neg a1, if_neg a2, if_neg a3, if_pos q]
  · unfold r_tab; rw [if_neg a1, if_neg a2, if_neg a3, if_neg a4, if_pos q]
  · unfold r_tab; rw [if_neg a1, if_neg a2, if_neg a3, if_neg a4, if_neg a5]
theorem T_tableFor {o : Nat} (ho : zTB Z o) {ty : Int32} (h0 : r_tab ty = none → Q (some .null) Z I G) (h1 : ∀ k w, r_tab ty = some (k, w) → Q (some (.ref (o + 5 + k))) Z I G) : aj_T (d + 2) mc ms 142 [.ref o, .int ty] Z I G Q := by
  refine t_142 fun J hJ => b_142_0 hJ (T_tableOfType (fun h => ?_) (fun k w h => ?_))
  · exact b_142_4 (q1 := o + 5 + 0) hJ ho.1 ho.2.1 ho.2.2.2.2.2.1 (fun z => absurd rfl z) (fun z => absurd rfl z) (fun z => absurd rfl z) (fun _ => h0 h)
  · have hk := (r_tab_b h).1
    have g := ho.2.2.2.2.2.2.2.2.2 k hk
    refine b_142_4 hJ ho.1 ho.2.1 ho.2.2.2.2.2.1 (fun _ => vp_in_nI (by omega) (by decide)) (fun _ => by rw [nI_clamp (by omega)]; exact g.1) (fun _ => h1 k w h) (fun z => ?_)
    have h1 : (nI k).toInt = (-1 : Int32).toInt := by rw [z]
    rw [nI_toInt (by omega)] at h1
    have h2 : (-1 : Int32).toInt = -1 := rfl
    omega
end RK
