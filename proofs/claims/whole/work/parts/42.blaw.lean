/-! block rows of the law -/
set_option maxRecDepth 4000 in
theorem b_L_15 {mc ms : Nat} {X : Option (Nat × (Nat → Int32))} {T : aj_Tt} {Q : aj_Q} {J : aj_J} (hJ : aj_Cl 11 code ret false mc ms X T Q J) {o1 : Nat} {w2 : Option Value} {w3 : Option Value} {s0 : Nat} {nX : Nat} {xs : Nat → Int32} {Z : aj_Z} {I : aj_I} {G : aj_G} {C : Nat × Nat} (hX : X = some (nX, xs)) (h0 : J 18 [some (.ref 1), some (.ref o1), some (.ref s0), some (.int 0)] [] Z I G C) : J 15 [some (.ref 1), some (.ref o1), w2, w3] [.ref s0] Z I G C := by
  refine s_astore_n hJ d_L_15 (Nat.le_of_ble_eq_true rfl) ?_
  refine s_iconst_0 hJ d_L_16 ?_
  refine s_istore_n hJ d_L_17 (Nat.le_of_ble_eq_true rfl) ?_
  exact h0
set_option maxRecDepth 4000 in
theorem b_L_18 {mc ms : Nat} {X : Option (Nat × (Nat → Int32))} {T : aj_Tt} {Q : aj_Q} {J : aj_J} (hJ : aj_Cl 11 code ret false mc ms X T Q J) {o1 : Nat} {o2 : Nat} {x3 : Int32} {nX : Nat} {xs : Nat → Int32} {Z : aj_Z} {I : aj_I} {G : aj_G} {C : Nat × Nat} (hX : X = some (nX, xs)) (h0 : ((Int32.ofNat nX) - 6) < x3 → Q (some (.int 1)) Z I G) (h1 : ¬ ((Int32.ofNat nX) - 6) < x3 → vp_in x3 nX) (k0 : Z.2.1 o1 = some (.inl 0)) (h2 : ¬ ((Int32.ofNat nX) - 6) < x3 → ((xs (Int32.toNatClampNeg x3)) &&& 15) = 0 → T 0 0 1 [.ref o1] Z I G (fun r Z1 I1 G1 => J 116 [some (.ref 1), some (.ref o1), some (.ref o2), some (.int x3)] (r.toList ++ []) Z1 I1 G1 C)) (h3 : ¬ ((Int32.ofNat nX) - 6) < x3 → ¬ ((xs (Int32.toNatClampNeg x3)) &&& 15) = 0 → ((xs (Int32.toNatClampNeg x3)) &&& 15) = 1 → vp_in (x3 + 1) nX) (h4 : ¬ ((Int32.ofNat nX) - 6) < x3 → ¬ ((xs (Int32.toNatClampNeg x3)) &&& 15) = 0 → ((xs (Int32.toNatClampNeg x3)) &&& 15) = 1 → vp_in (x3 + 2) nX) (h5 : ¬ ((Int32.ofNat nX) - 6) < x3 → ¬ ((xs (Int32.toNatClampNeg x3)) &&& 15) = 0 → ((xs (Int32.toNatClampNeg x3)) &&& 15) = 1 → vp_in (x3 + 3) nX) (h6 : ¬ ((Int32.ofNat nX) - 6) < x3 → ¬ ((xs (Int32.toNatClampNeg x3)) &&& 15) = 0 → ((xs (Int32.toNatClampNeg x3)) &&& 15) = 1 → vp_in (x3 + 4) nX) (h7 : ¬ ((Int32.ofNat nX) - 6) < x3 → ¬ ((xs (Int32.toNatClampNeg x3)) &&& 15) = 0 → ((xs (Int32.toNatClampNeg x3)) &&& 15) = 1 → vp_in (x3 + 5) nX) (h8 : ¬ ((Int32.ofNat nX) - 6) < x3 → ¬ ((xs (Int32.toNatClampNeg x3)) &&& 15) = 0 → ((xs (Int32.toNatClampNeg x3)) &&& 15) = 1 → T 0 0 2 [.ref o1, .int (xs (Int32.toNatClampNeg (x3 + 1))), .int (xs (Int32.toNatClampNeg (x3 + 2))), .long (((Int32.toInt64 (xs (Int32.toNatClampNeg (x3 + 3)))) <<< (Int32.toInt64 32 &&& 63)) ||| ((Int32.toInt64 (xs (Int32.toNatClampNeg (x3 + 4)))) &&& 4294967295)), .int (xs (Int32.toNatClampNeg (x3 + 5)))] Z I G (fun r Z1 I1 G1 => J 164 [some (.ref 1), some (.ref o1), some (.ref o2), some (.int x3)] (r.toList ++ []) Z1 I1 G1 C)) (h9 : ¬ ((Int32.ofNat nX) - 6) < x3 → ¬ ((xs (Int32.toNatClampNeg x3)) &&& 15) = 0 → ¬ ((xs (Int32.toNatClampNeg x3)) &&& 15) = 1 → ((xs (Int32.toNatClampNeg x3)) &&& 15) = 2 → T 0 0 3 [.ref o1] Z I G (fun r Z1 I1 G1 => J 212 [some (.ref 1), some (.ref o1), some (.ref o2), some (.int x3)] (r.toList ++ []) Z1 I1 G1 C)) (h10 : ¬ ((Int32.ofNat nX) - 6) < x3 → ¬ ((xs (Int32.toNatClampNeg x3)) &&& 15) = 0 → ¬ ((xs (Int32.toNatClampNeg x3)) &&& 15) = 1 → ¬ ((xs (Int32.toNatClampNeg x3)) &&& 15) = 2 → ((xs (Int32.toNatClampNeg x3)) &&& 15) = 3 → vp_in (x3 + 1) nX) (h11 : ¬ ((Int32.ofNat nX) - 6) < x3 → ¬ ((xs (Int32.toNatClampNeg x3)) &&& 15) = 0 → ¬ ((xs (Int32.toNatClampNeg x3)) &&& 15) = 1 → ¬ ((xs (Int32.toNatClampNeg x3)) &&& 15) = 2 → ((xs (Int32.toNatClampNeg x3)) &&& 15) = 3 → vp_in (x3 + 2) nX) (h12 : ¬ ((Int32.ofNat nX) - 6) < x3 → ¬ ((xs (Int32.toNatClampNeg x3)) &&& 15) = 0 → ¬ ((xs (Int32.toNatClampNeg x3)) &&& 15) = 1 → ¬ ((xs (Int32.toNatClampNeg x3)) &&& 15) = 2 → ((xs (Int32.toNatClampNeg x3)) &&& 15) = 3 → T 0 0 4 [.ref o1, .int (xs (Int32.toNatClampNeg (x3 + 1))), .int (xs (Int32.toNatClampNeg (x3 + 2)))] Z I G (fun r Z1 I1 G1 => J 235 [some (.ref 1), some (.ref o1), some (.ref o2), some (.int x3)] (r.toList ++ []) Z1 I1 G1 C)) (h13 : ¬ ((Int32.ofNat nX) - 6) < x3 → ¬ ((xs (Int32.toNatClampNeg x3)) &&& 15) = 0 → ¬ ((xs (Int32.toNatClampNeg x3)) &&& 15) = 1 → ¬ ((xs (Int32.toNatClampNeg x3)) &&& 15) = 2 → ¬ ((xs (Int32.toNatClampNeg x3)) &&& 15) = 3 → ((xs (Int32.toNatClampNeg x3)) &&& 15) = 4 → T 0 0 5 [.ref o1] Z I G (fun r Z1 I1 G1 => J 258 [some (.ref 1), some (.ref o1), some (.ref o2), some (.int x3)] (r.toList ++ []) Z1 I1 G1 C)) (h14 : ¬ ((Int32.ofNat nX) - 6) < x3 → ¬ ((xs (Int32.toNatClampNeg x3)) &&& 15) = 0 → ¬ ((xs (Int32.toNatClampNeg x3)) &&& 15) = 1 → ¬ ((xs (Int32.toNatClampNeg x3)) &&& 15) = 2 → ¬ ((xs (Int32.toNatClampNeg x3)) &&& 15) = 3 → ¬ ((xs (Int32.toNatClampNeg x3)) &&& 15) = 4 → ((xs (Int32.toNatClampNeg x3)) &&& 15) = 5 → T 0 0 6 [.ref o1] Z I G (fun r Z1 I1 G1 => J 271 [some (.ref 1), some (.ref o1), some (.ref o2), some (.int x3)] (r.toList ++ []) Z1 I1 G1 C)) (h15 : ¬ ((Int32.ofNat nX) - 6) < x3 → ¬ ((xs (Int32.toNatClampNeg x3)) &&& 15) = 0 → ¬ ((xs (Int32.toNatClampNeg x3)) &&& 15) = 1 → ¬ ((xs (Int32.toNatClampNeg x3)) &&& 15) = 2 → ¬ ((xs (Int32.toNatClampNeg x3)) &&& 15) = 3 → ¬ ((xs (Int32.toNatClampNeg x3)) &&& 15) = 4 → ¬ ((xs (Int32.toNatClampNeg x3)) &&& 15) = 5 → ((xs (Int32.toNatClampNeg x3)) &&& 15) = 6 → T 0 0 7 [.ref o1] Z I G (fun r Z1 I1 G1 => J 284 [some (.ref 1), some (.ref o1), some (.ref o2), some (.int x3)] (r.toList ++ []) Z1 I1 G1 C)) (h16 : ¬ ((Int32.ofNat nX) - 6) < x3 → ¬ ((xs (Int32.toNatClampNeg x3)) &&& 15) = 0 → ¬ ((xs (Int32.toNatClampNeg x3)) &&& 15) = 1 → ¬ ((xs (Int32.toNatClampNeg x3)) &&& 15) = 2 → ¬ ((xs (Int32.toNatClampNeg x3)) &&& 15) = 3 → ¬ ((xs (Int32.toNatClampNeg x3)) &&& 15) = 4 → ¬ ((xs (Int32.toNatClampNeg x3)) &&& 15) = 5 → ¬ ((xs (Int32.toNatClampNeg x3)) &&& 15) = 6 → ((xs (Int32.toNatClampNeg x3)) &&& 15) = 7 → vp_in (x3 + 1) nX) (h17 : ¬ ((Int32.ofNat nX) - 6) < x3 → ¬ ((xs (Int32.toNatClampNeg x3)) &&& 15) = 0 → ¬ ((xs (Int32.toNatClampNeg x3)) &&& 15) = 1 → ¬ ((xs (Int32.toNatClampNeg x3)) &&& 15) = 2 → ¬ ((xs (Int32.toNatClampNeg x3)) &&& 15) = 3 → ¬ ((xs (Int32.toNatClampNeg x3)) &&& 15) = 4 → ¬ ((xs (Int32.toNatClampNeg x3)) &&& 15) = 5 → ¬ ((xs (Int32.toNatClampNeg x3)) &&& 15) = 6 → ((xs (Int32.toNatClampNeg x3)) &&& 15) = 7 → T 0 0 8 [.ref o1, .int (xs (Int32.toNatClampNeg (x3 + 1)))] Z I G (fun r Z1 I1 G1 => J 302 [some (.ref 1), some (.ref o1), some (.ref o2), some (.int x3)] (r.toList ++ []) Z1 I1 G1 C)) (h18 : ¬ ((Int32.ofNat nX) - 6) < x3 → ¬ ((xs (Int32.toNatClampNeg x3)) &&& 15) = 0 → ¬ ((xs (Int32.toNatClampNeg x3)) &&& 15) = 1 → ¬ ((xs (Int32.toNatClampNeg x3)) &&& 15) = 2 → ¬ ((xs (Int32.toNatClampNeg x3)) &&& 15) = 3 → ¬ ((xs (Int32.toNatClampNeg x3)) &&& 15) = 4 → ¬ ((xs (Int32.toNatClampNeg x3)) &&& 15) = 5 → ¬ ((xs (Int32.toNatClampNeg x3)) &&& 15) = 6 → ¬ ((xs (Int32.toNatClampNeg x3)) &&& 15) = 7 → ((xs (Int32.toNatClampNeg x3)) &&& 15) = 8 → vp_in (x3 + 1) nX) (h19 : ¬ ((Int32.ofNat nX) - 6) < x3 → ¬ ((xs (Int32.toNatClampNeg x3)) &&& 15) = 0 → ¬ ((xs (Int32.toNatClampNeg x3)) &&& 15) = 1 → ¬ ((xs (Int32.toNatClampNeg x3)) &&& 15) = 2 → ¬ ((xs (Int32.toNatClampNeg x3)) &&& 15) = 3 → ¬ ((xs (Int32.toNatClampNeg x3)) &&& 15) = 4 → ¬ ((xs (Int32.toNatClampNeg x3)) &&& 15) = 5 → ¬ ((xs (Int32.toNatClampNeg x3)) &&& 15) = 6 → ¬ ((xs (Int32.toNatClampNeg x3)) &&& 15) = 7 → ((xs (Int32.toNatClampNeg x3)) &&& 15) = 8 → vp_in (x3 + 2) nX) (h20 : ¬ ((Int32.ofNat nX) - 6) < x3 → ¬ ((xs (Int32.toNatClampNeg x3)) &&& 15) = 0 → ¬ ((xs (Int32.toNatClampNeg x3)) &&& 15) = 1 → ¬ ((xs (Int32.toNatClampNeg x3)) &&& 15) = 2 → ¬ ((xs (Int32.toNatClampNeg x3)) &&& 15) = 3 → ¬ ((xs (Int32.toNatClampNeg x3)) &&& 15) = 4 → ¬ ((xs (Int32.toNatClampNeg x3)) &&& 15) = 5 → ¬ ((xs (Int32.toNatClampNeg x3)) &&& 15) = 6 → ¬ ((xs (Int32.toNatClampNeg x3)) &&& 15) = 7 → ((xs (Int32.toNatClampNeg x3)) &&& 15) = 8 → T 0 0 9 [.ref o1, .int (xs (Int32.toNatClampNeg (x3 + 1))), .int (xs (Int32.toNatClampNeg (x3 + 2)))] Z I G (fun r Z1 I1 G1 => J 330 [some (.ref 1), some (.ref o1), some (.ref o2), some (.int x3)] (r.toList ++ []) Z1 I1 G1 C)) (h21 : ¬ ((Int32.ofNat nX) - 6) < x3 → ¬ ((xs (Int32.toNatClampNeg x3)) &&& 15) = 0 → ¬ ((xs (Int32.toNatClampNeg x3)) &&& 15) = 1 → ¬ ((xs (Int32.toNatClampNeg x3)) &&& 15) = 2 → ¬ ((xs (Int32.toNatClampNeg x3)) &&& 15) = 3 → ¬ ((xs (Int32.toNatClampNeg x3)) &&& 15) = 4 → ¬ ((xs (Int32.toNatClampNeg x3)) &&& 15) = 5 → ¬ ((xs (Int32.toNatClampNeg x3)) &&& 15) = 6 → ¬ ((xs (Int32.toNatClampNeg x3)) &&& 15) = 7 → ¬ ((xs (Int32.toNatClampNeg x3)) &&& 15) = 8 → ((xs (Int32.toNatClampNeg x3)) &&& 15) = 9 → vp_in (x3 + 1) nX) (h22 : ¬ ((Int32.ofNat nX) - 6) < x3 → ¬ ((xs (Int32.toNatClampNeg x3)) &&& 15) = 0 → ¬ ((xs (Int32.toNatClampNeg x3)) &&& 15) = 1 → ¬ ((xs (Int32.toNatClampNeg x3)) &&& 15) = 2 → ¬ ((xs (Int32.toNatClampNeg x3)) &&& 15) = 3 → ¬ ((xs (Int32.toNatClampNeg x3)) &&& 15) = 4 → ¬ ((xs (Int32.toNatClampNeg x3)) &&& 15) = 5 → ¬ ((xs (Int32.toNatClampNeg x3)) &&& 15) = 6 → ¬ ((xs (Int32.toNatClampNeg x3)) &&& 15) = 7 → ¬ ((xs (Int32.toNatClampNeg x3)) &&& 15) = 8 → ((xs (Int32.toNatClampNeg x3)) &&& 15) = 9 → vp_in (x3 + 2) nX) (h23 : ¬ ((Int32.ofNat nX) - 6) < x3 → ¬ ((xs (Int32.toNatClampNeg x3)) &&& 15) = 0 → ¬ ((xs (Int32.toNatClampNeg x3)) &&& 15) = 1 → ¬ ((xs (Int32.toNatClampNeg x3)) &&& 15) = 2 → ¬ ((xs (Int32.toNatClampNeg x3)) &&& 15) = 3 → ¬ ((xs (Int32.toNatClampNeg x3)) &&& 15) = 4 → ¬ ((xs (Int32.toNatClampNeg x3)) &&& 15) = 5 → ¬ ((xs (Int32.toNatClampNeg x3)) &&& 15) = 6 → ¬ ((xs (Int32.toNatClampNeg x3)) &&& 15) = 7 → ¬ ((xs (Int32.toNatClampNeg x3)) &&& 15) = 8 → ((xs (Int32.toNatClampNeg x3)) &&& 15) = 9 → T 0 0 10 [.ref o1, .int (xs (Int32.toNatClampNeg (x3 + 1))), .int (xs (Int32.toNatClampNeg (x3 + 2)))] Z I G (fun r Z1 I1 G1 => J 363 [some (.ref 1), some (.ref o1), some (.ref o2), some (.int x3)] (r.toList ++ []) Z1 I1 G1 C)) (h24 : ¬ ((Int32.ofNat nX) - 6) < x3 → ¬ ((xs (Int32.toNatClampNeg x3)) &&& 15) = 0 → ¬ ((xs (Int32.toNatClampNeg x3)) &&& 15) = 1 → ¬ ((xs (Int32.toNatClampNeg x3)) &&& 15) = 2 → ¬ ((xs (Int32.toNatClampNeg x3)) &&& 15) = 3 → ¬ ((xs (Int32.toNatClampNeg x3)) &&& 15) = 4 → ¬ ((xs (Int32.toNatClampNeg x3)) &&& 15) = 5 → ¬ ((xs (Int32.toNatClampNeg x3)) &&& 15) = 6 → ¬ ((xs (Int32.toNatClampNeg x3)) &&& 15) = 7 → ¬ ((xs (Int32.toNatClampNeg x3)) &&& 15) = 8 → ¬ ((xs (Int32.toNatClampNeg x3)) &&& 15) = 9 → ((xs (Int32.toNatClampNeg x3)) &&& 15) = 10 → vp_in (x3 + 1) nX) (h25 : ¬ ((Int32.ofNat nX) - 6) < x3 → ¬ ((xs (Int32.toNatClampNeg x3)) &&& 15) = 0 → ¬ ((xs (Int32.toNatClampNeg x3)) &&& 15) = 1 → ¬ ((xs (Int32.toNatClampNeg x3)) &&& 15) = 2 → ¬ ((xs (Int32.toNatClampNeg x3)) &&& 15) = 3 → ¬ ((xs (Int32.toNatClampNeg x3)) &&& 15) = 4 → ¬ ((xs (Int32.toNatClampNeg x3)) &&& 15) = 5 → ¬ ((xs (Int32.toNatClampNeg x3)) &&& 15) = 6 → ¬ ((xs (Int32.toNatClampNeg x3)) &&& 15) = 7 → ¬ ((xs (Int32.toNatClampNeg x3)) &&& 15) = 8 → ¬ ((xs (Int32.toNatClampNeg x3)) &&& 15) = 9 → ((xs (Int32.toNatClampNeg x3)) &&& 15) = 10 → vp_in (x3 + 2) nX) (h26 : ¬ ((Int32.ofNat nX) - 6) < x3 → ¬ ((xs (Int32.toNatClampNeg x3)) &&& 15) = 0 → ¬ ((xs (Int32.toNatClampNeg x3)) &&& 15) = 1 → ¬ ((xs (Int32.toNatClampNeg x3)) &&& 15) = 2 → ¬ ((xs (Int32.toNatClampNeg x3)) &&& 15) = 3 → ¬ ((xs (Int32.toNatClampNeg x3)) &&& 15) = 4 → ¬ ((xs (Int32.toNatClampNeg x3)) &&& 15) = 5 → ¬ ((xs (Int32.toNatClampNeg x3)) &&& 15) = 6 → ¬ ((xs (Int32.toNatClampNeg x3)) &&& 15) = 7 → ¬ ((xs (Int32.toNatClampNeg x3)) &&& 15) = 8 → ¬ ((xs (Int32.toNatClampNeg x3)) &&& 15) = 9 → ((xs (Int32.toNatClampNeg x3)) &&& 15) = 10 → T 0 0 11 [.ref o1, .int (xs (Int32.toNatClampNeg (x3 + 1))), .int (xs (Int32.toNatClampNeg (x3 + 2)))] Z I G (fun r Z1 I1 G1 => J 397 [some (.ref 1), some (.ref o1), some (.ref o2), some (.int x3)] (r.toList ++ []) Z1 I1 G1 C)) (h27 : ¬ ((Int32.ofNat nX) - 6) < x3 → ¬ ((xs (Int32.toNatClampNeg x3)) &&& 15) = 0 → ¬ ((xs (Int32.toNatClampNeg x3)) &&& 15) = 1 → ¬ ((xs (Int32.toNatClampNeg x3)) &&& 15) = 2 → ¬ ((xs (Int32.toNatClampNeg x3)) &&& 15) = 3 → ¬ ((xs (Int32.toNatClampNeg x3)) &&& 15) = 4 → ¬ ((xs (Int32.toNatClampNeg x3)) &&& 15) = 5 → ¬ ((xs (Int32.toNatClampNeg x3)) &&& 15) = 6 → ¬ ((xs (Int32.toNatClampNeg x3)) &&& 15) = 7 → ¬ ((xs (Int32.toNatClampNeg x3)) &&& 15) = 8 → ¬ ((xs (Int32.toNatClampNeg x3)) &&& 15) = 9 → ¬ ((xs (Int32.toNatClampNeg x3)) &&& 15) = 10 → ((xs (Int32.toNatClampNeg x3)) &&& 15) = 11 → T 0 0 12 [.ref o1] Z I G (fun r Z1 I1 G1 => J 421 [some (.ref 1), some (.ref o1), some (.ref o2), some (.int x3)] (r.toList ++ []) Z1 I1 G1 C)) (h28 : ¬ ((Int32.ofNat nX) - 6) < x3 → ¬ ((xs (Int32.toNatClampNeg x3)) &&& 15) = 0 → ¬ ((xs (Int32.toNatClampNeg x3)) &&& 15) = 1 → ¬ ((xs (Int32.toNatClampNeg x3)) &&& 15) = 2 → ¬ ((xs (Int32.toNatClampNeg x3)) &&& 15) = 3 → ¬ ((xs (Int32.toNatClampNeg x3)) &&& 15) = 4 → ¬ ((xs (Int32.toNatClampNeg x3)) &&& 15) = 5 → ¬ ((xs (Int32.toNatClampNeg x3)) &&& 15) = 6 → ¬ ((xs (Int32.toNatClampNeg x3)) &&& 15) = 7 → ¬ ((xs (Int32.toNatClampNeg x3)) &&& 15) = 8 → ¬ ((xs (Int32.toNatClampNeg x3)) &&& 15) = 9 → ¬ ((xs (Int32.toNatClampNeg x3)) &&& 15) = 10 → ¬ ((xs (Int32.toNatClampNeg x3)) &&& 15) = 11 → ((xs (Int32.toNatClampNeg x3)) &&& 15) = 12 → vp_in (x3 + 1) nX) (h29 : ¬ ((Int32.ofNat nX) - 6) < x3 → ¬ ((xs (Int32.toNatClampNeg x3)) &&& 15) = 0 → ¬ ((xs (Int32.toNatClampNeg x3)) &&& 15) = 1 → ¬ ((xs (Int32.toNatClampNeg x3)) &&& 15) = 2 → ¬ ((xs (Int32.toNatClampNeg x3)) &&& 15) = 3 → ¬ ((xs (Int32.toNatClampNeg x3)) &&& 15) = 4 → ¬ ((xs (Int32.toNatClampNeg x3)) &&& 15) = 5 → ¬ ((xs (Int32.toNatClampNeg x3)) &&& 15) = 6 → ¬ ((xs (Int32.toNatClampNeg x3)) &&& 15) = 7 → ¬ ((xs (Int32.toNatClampNeg x3)) &&& 15) = 8 → ¬ ((xs (Int32.toNatClampNeg x3)) &&& 15) = 9 → ¬ ((xs (Int32.toNatClampNeg x3)) &&& 15) = 10 → ¬ ((xs (Int32.toNatClampNeg x3)) &&& 15) = 11 → ((xs (Int32.toNatClampNeg x3)) &&& 15) = 12 → T 0 0 13 [.ref o1, .int (xs (Int32.toNatClampNeg (x3 + 1)))] Z I G (fun r Z1 I1 G1 => J 439 [some (.ref 1), some (.ref o1), some (.ref o2), some (.int x3)] (r.toList ++ []) Z1 I1 G1 C)) (h30 : ¬ ((Int32.ofNat nX) - 6) < x3 → ¬ ((xs (Int32.toNatClampNeg x3)) &&& 15) = 0 → ¬ ((xs (Int32.toNatClampNeg x3)) &&& 15) = 1 → ¬ ((xs (Int32.toNatClampNeg x3)) &&& 15) = 2 → ¬ ((xs (Int32.toNatClampNeg x3)) &&& 15) = 3 → ¬ ((xs (Int32.toNatClampNeg x3)) &&& 15) = 4 → ¬ ((xs (Int32.toNatClampNeg x3)) &&& 15) = 5 → ¬ ((xs (Int32.toNatClampNeg x3)) &&& 15) = 6 → ¬ ((xs (Int32.toNatClampNeg x3)) &&& 15) = 7 → ¬ ((xs (Int32.toNatClampNeg x3)) &&& 15) = 8 → ¬ ((xs (Int32.toNatClampNeg x3)) &&& 15) = 9 → ¬ ((xs (Int32.toNatClampNeg x3)) &&& 15) = 10 → ¬ ((xs (Int32.toNatClampNeg x3)) &&& 15) = 11 → ¬ ((xs (Int32.toNatClampNeg x3)) &&& 15) = 12 → ((xs (Int32.toNatClampNeg x3)) &&& 15) = 13 → vp_in (x3 + 1) nX) (h31 : ¬ ((Int32.ofNat nX) - 6) < x3 → ¬ ((xs (Int32.toNatClampNeg x3)) &&& 15) = 0 → ¬ ((xs (Int32.toNatClampNeg x3)) &&& 15) = 1 → ¬ ((xs (Int32.toNatClampNeg x3)) &&& 15) = 2 → ¬ ((xs (Int32.toNatClampNeg x3)) &&& 15) = 3 → ¬ ((xs (Int32.toNatClampNeg x3)) &&& 15) = 4 → ¬ ((xs (Int32.toNatClampNeg x3)) &&& 15) = 5 → ¬ ((xs (Int32.toNatClampNeg x3)) &&& 15) = 6 → ¬ ((xs (Int32.toNatClampNeg x3)) &&& 15) = 7 → ¬ ((xs (Int32.toNatClampNeg x3)) &&& 15) = 8 → ¬ ((xs (Int32.toNatClampNeg x3)) &&& 15) = 9 → ¬ ((xs (Int32.toNatClampNeg x3)) &&& 15) = 10 → ¬ ((xs (Int32.toNatClampNeg x3)) &&& 15) = 11 → ¬ ((xs (Int32.toNatClampNeg x3)) &&& 15) = 12 → ((xs (Int32.toNatClampNeg x3)) &&& 15) = 13 → vp_in (x3 + 2) nX) (h32 : ¬ ((Int32.ofNat nX) - 6) < x3 → ¬ ((xs (Int32.toNatClampNeg x3)) &&& 15) = 0 → ¬ ((xs (Int32.toNatClampNeg x3)) &&& 15) = 1 → ¬ ((xs (Int32.toNatClampNeg x3)) &&& 15) = 2 → ¬ ((xs (Int32.toNatClampNeg x3)) &&& 15) = 3 → ¬ ((xs (Int32.toNatClampNeg x3)) &&& 15) = 4 → ¬ ((xs (Int32.toNatClampNeg x3)) &&& 15) = 5 → ¬ ((xs (Int32.toNatClampNeg x3)) &&& 15) = 6 → ¬ ((xs (Int32.toNatClampNeg x3)) &&& 15) = 7 → ¬ ((xs (Int32.toNatClampNeg x3)) &&& 15) = 8 → ¬ ((xs (Int32.toNatClampNeg x3)) &&& 15) = 9 → ¬ ((xs (Int32.toNatClampNeg x3)) &&& 15) = 10 → ¬ ((xs (Int32.toNatClampNeg x3)) &&& 15) = 11 → ¬ ((xs (Int32.toNatClampNeg x3)) &&& 15) = 12 → ((xs (Int32.toNatClampNeg x3)) &&& 15) = 13 → T 0 0 14 [.ref o1, .int (xs (Int32.toNatClampNeg (x3 + 1))), .int (xs (Int32.toNatClampNeg (x3 + 2)))] Z I G (fun r Z1 I1 G1 => J 467 [some (.ref 1), some (.ref o1), some (.ref o2), some (.int x3)] (r.toList ++ []) Z1 I1 G1 C)) (h33 : ¬ ((Int32.ofNat nX) - 6) < x3 → ¬ ((xs (Int32.toNatClampNeg x3)) &&& 15) = 0 → ¬ ((xs (Int32.toNatClampNeg x3)) &&& 15) = 1 → ¬ ((xs (Int32.toNatClampNeg x3)) &&& 15) = 2 → ¬ ((xs (Int32.toNatClampNeg x3)) &&& 15) = 3 → ¬ ((xs (Int32.toNatClampNeg x3)) &&& 15) = 4 → ¬ ((xs (Int32.toNatClampNeg x3)) &&& 15) = 5 → ¬ ((xs (Int32.toNatClampNeg x3)) &&& 15) = 6 → ¬ ((xs (Int32.toNatClampNeg x3)) &&& 15) = 7 → ¬ ((xs (Int32.toNatClampNeg x3)) &&& 15) = 8 → ¬ ((xs (Int32.toNatClampNeg x3)) &&& 15) = 9 → ¬ ((xs (Int32.toNatClampNeg x3)) &&& 15) = 10 → ¬ ((xs (Int32.toNatClampNeg x3)) &&& 15) = 11 → ¬ ((xs (Int32.toNatClampNeg x3)) &&& 15) = 12 → ¬ ((xs (Int32.toNatClampNeg x3)) &&& 15) = 13 → ((xs (Int32.toNatClampNeg x3)) &&& 15) = 14 → vp_in (x3 + 1) nX) (h34 : ¬ ((Int32.ofNat nX) - 6) < x3 → ¬ ((xs (Int32.toNatClampNeg x3)) &&& 15) = 0 → ¬ ((xs (Int32.toNatClampNeg x3)) &&& 15) = 1 → ¬ ((xs (Int32.toNatClampNeg x3)) &&& 15) = 2 → ¬ ((xs (Int32.toNatClampNeg x3)) &&& 15) = 3 → ¬ ((xs (Int32.toNatClampNeg x3)) &&& 15) = 4 → ¬ ((xs (Int32.toNatClampNeg x3)) &&& 15) = 5 → ¬ ((xs (Int32.toNatClampNeg x3)) &&& 15) = 6 → ¬ ((xs (Int32.toNatClampNeg x3)) &&& 15) = 7 → ¬ ((xs (Int32.toNatClampNeg x3)) &&& 15) = 8 → ¬ ((xs (Int32.toNatClampNeg x3)) &&& 15) = 9 → ¬ ((xs (Int32.toNatClampNeg x3)) &&& 15) = 10 → ¬ ((xs (Int32.toNatClampNeg x3)) &&& 15) = 11 → ¬ ((xs (Int32.toNatClampNeg x3)) &&& 15) = 12 → ¬ ((xs (Int32.toNatClampNeg x3)) &&& 15) = 13 → ((xs (Int32.toNatClampNeg x3)) &&& 15) = 14 → vp_in (x3 + 2) nX) (h35 : ¬ ((Int32.ofNat nX) - 6) < x3 → ¬ ((xs (Int32.toNatClampNeg x3)) &&& 15) = 0 → ¬ ((xs (Int32.toNatClampNeg x3)) &&& 15) = 1 → ¬ ((xs (Int32.toNatClampNeg x3)) &&& 15) = 2 → ¬ ((xs (Int32.toNatClampNeg x3)) &&& 15) = 3 → ¬ ((xs (Int32.toNatClampNeg x3)) &&& 15) = 4 → ¬ ((xs (Int32.toNatClampNeg x3)) &&& 15) = 5 → ¬ ((xs (Int32.toNatClampNeg x3)) &&& 15) = 6 → ¬ ((xs (Int32.toNatClampNeg x3)) &&& 15) = 7 → ¬ ((xs (Int32.toNatClampNeg x3)) &&& 15) = 8 → ¬ ((xs (Int32.toNatClampNeg x3)) &&& 15) = 9 → ¬ ((xs (Int32.toNatClampNeg x3)) &&& 15) = 10 → ¬ ((xs (Int32.toNatClampNeg x3)) &&& 15) = 11 → ¬ ((xs (Int32.toNatClampNeg x3)) &&& 15) = 12 → ¬ ((xs (Int32.toNatClampNeg x3)) &&& 15) = 13 → ((xs (Int32.toNatClampNeg x3)) &&& 15) = 14 → vp_in (x3 + 3) nX) (h36 : ¬ ((Int32.ofNat nX) - 6) < x3 → ¬ ((xs (Int32.toNatClampNeg x3)) &&& 15) = 0 → ¬ ((xs (Int32.toNatClampNeg x3)) &&& 15) = 1 → ¬ ((xs (Int32.toNatClampNeg x3)) &&& 15) = 2 → ¬ ((xs (Int32.toNatClampNeg x3)) &&& 15) = 3 → ¬ ((xs (Int32.toNatClampNeg x3)) &&& 15) = 4 → ¬ ((xs (Int32.toNatClampNeg x3)) &&& 15) = 5 → ¬ ((xs (Int32.toNatClampNeg x3)) &&& 15) = 6 → ¬ ((xs (Int32.toNatClampNeg x3)) &&& 15) = 7 → ¬ ((xs (Int32.toNatClampNeg x3)) &&& 15) = 8 → ¬ ((xs (Int32.toNatClampNeg x3)) &&& 15) = 9 → ¬ ((xs (Int32.toNatClampNeg x3)) &&& 15) = 10 → ¬ ((xs (Int32.toNatClampNeg x3)) &&& 15) = 11 → ¬ ((xs (Int32.toNatClampNeg x3)) &&& 15) = 12 → ¬ ((xs (Int32.toNatClampNeg x3)) &&& 15) = 13 → ((xs (Int32.toNatClampNeg x3)) &&& 15) = 14 → T 0 0 15 [.ref o1, .long (((Int32.toInt64 (xs (Int32.toNatClampNeg (x3 + 1)))) <<< (Int32.toInt64 32 &&& 63)) ||| ((Int32.toInt64 (xs (Int32.toNatClampNeg (x3 + 2)))) &&& 4294967295)), .int (xs (Int32.toNatClampNeg (x3 + 3)))] Z I G (fun r Z1 I1 G1 => J 515 [some (.ref 1), some (.ref o1), some (.ref o2), some (.int x3)] (r.toList ++ []) Z1 I1 G1 C)) (h37 : ¬ ((Int32.ofNat nX) - 6) < x3 → ¬ ((xs (Int32.toNatClampNeg x3)) &&& 15) = 0 → ¬ ((xs (Int32.toNatClampNeg x3)) &&& 15) = 1 → ¬ ((xs (Int32.toNatClampNeg x3)) &&& 15) = 2 → ¬ ((xs (Int32.toNatClampNeg x3)) &&& 15) = 3 → ¬ ((xs (Int32.toNatClampNeg x3)) &&& 15) = 4 → ¬ ((xs (Int32.toNatClampNeg x3)) &&& 15) = 5 → ¬ ((xs (Int32.toNatClampNeg x3)) &&& 15) = 6 → ¬ ((xs (Int32.toNatClampNeg x3)) &&& 15) = 7 → ¬ ((xs (Int32.toNatClampNeg x3)) &&& 15) = 8 → ¬ ((xs (Int32.toNatClampNeg x3)) &&& 15) = 9 → ¬ ((xs (Int32.toNatClampNeg x3)) &&& 15) = 10 → ¬ ((xs (Int32.toNatClampNeg x3)) &&& 15) = 11 → ¬ ((xs (Int32.toNatClampNeg x3)) &&& 15) = 12 → ¬ ((xs (Int32.toNatClampNeg x3)) &&& 15) = 13 → ¬ ((xs (Int32.toNatClampNeg x3)) &&& 15) = 14 → ((xs (Int32.toNatClampNeg x3)) &&& 15) = 15 → vp_in (x3 + 1) nX) (h38 : ¬ ((Int32.ofNat nX) - 6) < x3 → ¬ ((xs (Int32.toNatClampNeg x3)) &&& 15) = 0 → ¬ ((xs (Int32.toNatClampNeg x3)) &&& 15) = 1 → ¬ ((xs (Int32.toNatClampNeg x3)) &&& 15) = 2 → ¬ ((xs (Int32.toNatClampNeg x3)) &&& 15) = 3 → ¬ ((xs (Int32.toNatClampNeg x3)) &&& 15) = 4 → ¬ ((xs (Int32.toNatClampNeg x3)) &&& 15) = 5 → ¬ ((xs (Int32.toNatClampNeg x3)) &&& 15) = 6 → ¬ ((xs (Int32.toNatClampNeg x3)) &&& 15) = 7 → ¬ ((xs (Int32.toNatClampNeg x3)) &&& 15) = 8 → ¬ ((xs (Int32.toNatClampNeg x3)) &&& 15) = 9 → ¬ ((xs (Int32.toNatClampNeg x3)) &&& 15) = 10 → ¬ ((xs (Int32.toNatClampNeg x3)) &&& 15) = 11 → ¬ ((xs (Int32.toNatClampNeg x3)) &&& 15) = 12 → ¬ ((xs (Int32.toNatClampNeg x3)) &&& 15) = 13 → ¬ ((xs (Int32.toNatClampNeg x3)) &&& 15) = 14 → ((xs (Int32.toNatClampNeg x3)) &&& 15) = 15 → T 0 0 16 [.ref o1, .int (xs (Int32.toNatClampNeg (x3 + 1)))] Z I G (fun r Z1 I1 G1 => J 558 [some (.ref 1), some (.ref o1), some (.ref o2), some (.int x3)] (r.toList ++ []) Z1 I1 G1 C)) (h39 : ¬ ((Int32.ofNat nX) - 6) < x3 → ¬ ((xs (Int32.toNatClampNeg x3)) &&& 15) = 0 → ¬ ((xs (Int32.toNatClampNeg x3)) &&& 15) = 1 → ¬ ((xs (Int32.toNatClampNeg x3)) &&& 15) = 2 → ¬ ((xs (Int32.toNatClampNeg x3)) &&& 15) = 3 → ¬ ((xs (Int32.toNatClampNeg x3)) &&& 15) = 4 → ¬ ((xs (Int32.toNatClampNeg x3)) &&& 15) = 5 → ¬ ((xs (Int32.toNatClampNeg x3)) &&& 15) = 6 → ¬ ((xs (Int32.toNatClampNeg x3)) &&& 15) = 7 → ¬ ((xs (Int32.toNatClampNeg x3)) &&& 15) = 8 → ¬ ((xs (Int32.toNatClampNeg x3)) &&& 15) = 9 → ¬ ((xs (Int32.toNatClampNeg x3)) &&& 15) = 10 → ¬ ((xs (Int32.toNatClampNeg x3)) &&& 15) = 11 → ¬ ((xs (Int32.toNatClampNeg x3)) &&& 15) = 12 → ¬ ((xs (Int32.toNatClampNeg x3)) &&& 15) = 13 → ¬ ((xs (Int32.toNatClampNeg x3)) &&& 15) = 14 → ¬ ((xs (Int32.toNatClampNeg x3)) &&& 15) = 15 → J 18 [some (.ref 1), some (.ref o1), some (.ref o2), some (.int (x3 + 6))] [] Z I G C) : J 18 [some (.ref 1), some (.ref o1), some (.ref o2), some (.int x3)] [] Z I G C := by
  refine s_iload_n hJ d_L_18 rfl ?_
  refine s_aload_n hJ d_L_19 rfl ?_
  refine s_slen hJ d_L_20 hX ?_
  refine s_bipush (v := 6) hJ d_L_21 (by decide) ?_
  refine s_isub hJ d_L_23 ?_
  refine s_icmp_gt (tgt := 578) hJ d_L_24 rfl (fun c0 => ?_) (fun c0 => ?_)
  · skip
    refine s_iconst_1 hJ d_L_578 ?_
    exact s_iret hJ d_L_579 rfl rfl (h0 c0)
  · skip
    refine s_aload_n hJ d_L_27 rfl ?_
    refine s_iload_n hJ d_L_28 rfl ?_
    refine s_sald hJ d_L_29 hX (h1 c0) ?_
    refine s_bipush (v := 15) hJ d_L_30 (by decide) ?_
    refine s_iand hJ d_L_32 ?_
    by_cases c1 : ((xs (Int32.toNatClampNeg x3)) &&& 15) = 0
    · skip
      refine s_tableIn (off := 79) (tgt := 112) hJ d_L_33 (by rw [c1]; decide) (by rw [c1]; decide) (by rw [c1]; decide) rfl ?_
      refine s_aload_n hJ d_L_112 rfl ?_
      exact s_V0 hJ lm_11_13 d_L_113 (Nat.le_of_ble_eq_true rfl) k0 (h2 c0 c1)
    by_cases c2 : ((xs (Int32.toNatClampNeg x3)) &&& 15) = 1
    · skip
      refine s_tableIn (off := 92) (tgt := 125) hJ d_L_33 (by rw [c2]; decide) (by rw [c2]; decide) (by rw [c2]; decide) rfl ?_
      refine s_aload_n hJ d_L_125 rfl ?_
      refine s_aload_n hJ d_L_126 rfl ?_
      refine s_iload_n hJ d_L_127 rfl ?_
      refine s_iconst_1 hJ d_L_128 ?_
      refine s_iadd hJ d_L_129 ?_
      refine s_sald hJ d_L_130 hX (h3 c0 c1 c2) ?_
      refine s_aload_n hJ d_L_131 rfl ?_
      refine s_iload_n hJ d_L_132 rfl ?_
      refine s_iconst_2 hJ d_L_133 ?_
      refine s_iadd hJ d_L_134 ?_
      refine s_sald hJ d_L_135 hX (h4 c0 c1 c2) ?_
      refine s_aload_n hJ d_L_136 rfl ?_
      refine s_iload_n hJ d_L_137 rfl ?_
      refine s_iconst_3 hJ d_L_138 ?_
      refine s_iadd hJ d_L_139 ?_
      refine s_sald hJ d_L_140 hX (h5 c0 c1 c2) ?_
      refine s_i2l hJ d_L_141 ?_
      refine s_bipush (v := 32) hJ d_L_142 (by decide) ?_
      refine s_lshl hJ d_L_144 ?_
      refine s_aload_n hJ d_L_145 rfl ?_
      refine s_iload_n hJ d_L_146 rfl ?_
      refine s_iconst_4 hJ d_L_147 ?_
      refine s_iadd hJ d_L_148 ?_
      refine s_sald hJ d_L_149 hX (h6 c0 c1 c2) ?_
      refine s_i2l hJ d_L_150 ?_
      refine s_ldc2 hJ ll_11_18 d_L_151 ?_
      refine s_land hJ d_L_154 ?_
      refine s_lor hJ d_L_155 ?_
      refine s_aload_n hJ d_L_156 rfl ?_
      refine s_iload_n hJ d_L_157 rfl ?_
      refine s_iconst_5 hJ d_L_158 ?_
      refine s_iadd hJ d_L_159 ?_
      refine s_sald hJ d_L_160 hX (h7 c0 c1 c2) ?_
      exact s_V4 hJ lm_11_20 d_L_161 (Nat.le_of_ble_eq_true rfl) k0 (h8 c0 c1 c2)
    by_cases c3 : ((xs (Int32.toNatClampNeg x3)) &&& 15) = 2
    · skip
      refine s_tableIn (off := 175) (tgt := 208) hJ d_L_33 (by rw [c3]; decide) (by rw [c3]; decide) (by rw [c3]; decide) rfl ?_
      refine s_aload_n hJ d_L_208 rfl ?_
      exact s_V0 hJ lm_11_25 d_L_209 (Nat.le_of_ble_eq_true rfl) k0 (h9 c0 c1 c2 c3)
    by_cases c4 : ((xs (Int32.toNatClampNeg x3)) &&& 15) = 3
    · skip
      refine s_tableIn (off := 188) (tgt := 221) hJ d_L_33 (by rw [c4]; decide) (by rw [c4]; decide) (by rw [c4]; decide) rfl ?_
      refine s_aload_n hJ d_L_221 rfl ?_
      refine s_aload_n hJ d_L_222 rfl ?_
      refine s_iload_n hJ d_L_223 rfl ?_
      refine s_iconst_1 hJ d_L_224 ?_
      refine s_iadd hJ d_L_225 ?_
      refine s_sald hJ d_L_226 hX (h10 c0 c1 c2 c3 c4) ?_
      refine s_aload_n hJ d_L_227 rfl ?_
      refine s_iload_n hJ d_L_228 rfl ?_
      refine s_iconst_2 hJ d_L_229 ?_
      refine s_iadd hJ d_L_230 ?_
      refine s_sald hJ d_L_231 hX (h11 c0 c1 c2 c3 c4) ?_
      exact s_V2 hJ lm_11_29 d_L_232 (Nat.le_of_ble_eq_true rfl) k0 (h12 c0 c1 c2 c3 c4)
    by_cases c5 : ((xs (Int32.toNatClampNeg x3)) &&& 15) = 4
    · skip
      refine s_tableIn (off := 221) (tgt := 254) hJ d_L_33 (by rw [c5]; decide) (by rw [c5]; decide) (by rw [c5]; decide) rfl ?_
      refine s_aload_n hJ d_L_254 rfl ?_
      exact s_V0 hJ lm_11_34 d_L_255 (Nat.le_of_ble_eq_true rfl) k0 (h13 c0 c1 c2 c3 c4 c5)
    by_cases c6 : ((xs (Int32.toNatClampNeg x3)) &&& 15) = 5
    · skip
      refine s_tableIn (off := 234) (tgt := 267) hJ d_L_33 (by rw [c6]; decide) (by rw [c6]; decide) (by rw [c6]; decide) rfl ?_
      refine s_aload_n hJ d_L_267 rfl ?_
      exact s_V0 hJ lm_11_38 d_L_268 (Nat.le_of_ble_eq_true rfl) k0 (h14 c0 c1 c2 c3 c4 c5 c6)
    by_cases c7 : ((xs (Int32.toNatClampNeg x3)) &&& 15) = 6
    · skip
      refine s_tableIn (off := 247) (tgt := 280) hJ d_L_33 (by rw [c7]; decide) (by rw [c7]; decide) (by rw [c7]; decide) rfl ?_
      refine s_aload_n hJ d_L_280 rfl ?_
      exact s_V0 hJ lm_11_42 d_L_281 (Nat.le_of_ble_eq_true rfl) k0 (h15 c0 c1 c2 c3 c4 c5 c6 c7)
    by_cases c8 : ((xs (Int32.toNatClampNeg x3)) &&& 15) = 7
    · skip
      refine s_tableIn (off := 260) (tgt := 293) hJ d_L_33 (by rw [c8]; decide) (by rw [c8]; decide) (by rw [c8]; decide) rfl ?_
      refine s_aload_n hJ d_L_293 rfl ?_
      refine s_aload_n hJ d_L_294 rfl ?_
      refine s_iload_n hJ d_L_295 rfl ?_
      refine s_iconst_1 hJ d_L_296 ?_
      refine s_iadd hJ d_L_297 ?_
      refine s_sald hJ d_L_298 hX (h16 c0 c1 c2 c3 c4 c5 c6 c7 c8) ?_
      exact s_V1 hJ lm_11_46 d_L_299 (Nat.le_of_ble_eq_true rfl) k0 (h17 c0 c1 c2 c3 c4 c5 c6 c7 c8)
    by_cases c9 : ((xs (Int32.toNatClampNeg x3)) &&& 15) = 8
    · skip
      refine s_tableIn (off := 283) (tgt := 316) hJ d_L_33 (by rw [c9]; decide) (by rw [c9]; decide) (by rw [c9]; decide) rfl ?_
      refine s_aload_n hJ d_L_316 rfl ?_
      refine s_aload_n hJ d_L_317 rfl ?_
      refine s_iload_n hJ d_L_318 rfl ?_
      refine s_iconst_1 hJ d_L_319 ?_
      refine s_iadd hJ d_L_320 ?_
      refine s_sald hJ d_L_321 hX (h18 c0 c1 c2 c3 c4 c5 c6 c7 c8 c9) ?_
      refine s_aload_n hJ d_L_322 rfl ?_
      refine s_iload_n hJ d_L_323 rfl ?_
      refine s_iconst_2 hJ d_L_324 ?_
      refine s_iadd hJ d_L_325 ?_
      refine s_sald hJ d_L_326 hX (h19 c0 c1 c2 c3 c4 c5 c6 c7 c8 c9) ?_
      exact s_V2 hJ lm_11_51 d_L_327 (Nat.le_of_ble_eq_true rfl) k0 (h20 c0 c1 c2 c3 c4 c5 c6 c7 c8 c9)
    by_cases c10 : ((xs (Int32.toNatClampNeg x3)) &&& 15) = 9
    · skip
      refine s_tableIn (off := 316) (tgt := 349) hJ d_L_33 (by rw [c10]; decide) (by rw [c10]; decide) (by rw [c10]; decide) rfl ?_
      refine s_aload_n hJ d_L_349 rfl ?_
      refine s_aload_n hJ d_L_350 rfl ?_
      refine s_iload_n hJ d_L_351 rfl ?_
      refine s_iconst_1 hJ d_L_352 ?_
      refine s_iadd hJ d_L_353 ?_
      refine s_sald hJ d_L_354 hX (h21 c0 c1 c2 c3 c4 c5 c6 c7 c8 c9 c10) ?_
      refine s_aload_n hJ d_L_355 rfl ?_
      refine s_iload_n hJ d_L_356 rfl ?_
      refine s_iconst_2 hJ d_L_357 ?_
      refine s_iadd hJ d_L_358 ?_
      refine s_sald hJ d_L_359 hX (h22 c0 c1 c2 c3 c4 c5 c6 c7 c8 c9 c10) ?_
      exact s_V2 hJ lm_11_55 d_L_360 (Nat.le_of_ble_eq_true rfl) k0 (h23 c0 c1 c2 c3 c4 c5 c6 c7 c8 c9 c10)
    by_cases c11 : ((xs (Int32.toNatClampNeg x3)) &&& 15) = 10
    · skip
      refine s_tableIn (off := 350) (tgt := 383) hJ d_L_33 (by rw [c11]; decide) (by rw [c11]; decide) (by rw [c11]; decide) rfl ?_
      refine s_aload_n hJ d_L_383 rfl ?_
      refine s_aload_n hJ d_L_384 rfl ?_
      refine s_iload_n hJ d_L_385 rfl ?_
      refine s_iconst_1 hJ d_L_386 ?_
      refine s_iadd hJ d_L_387 ?_
      refine s_sald hJ d_L_388 hX (h24 c0 c1 c2 c3 c4 c5 c6 c7 c8 c9 c10 c11) ?_
      refine s_aload_n hJ d_L_389 rfl ?_
      refine s_iload_n hJ d_L_390 rfl ?_
      refine s_iconst_2 hJ d_L_391 ?_
      refine s_iadd hJ d_L_392 ?_
      refine s_sald hJ d_L_393 hX (h25 c0 c1 c2 c3 c4 c5 c6 c7 c8 c9 c10 c11) ?_
      exact s_V2 hJ lm_11_60 d_L_394 (Nat.le_of_ble_eq_true rfl) k0 (h26 c0 c1 c2 c3 c4 c5 c6 c7 c8 c9 c10 c11)
    by_cases c12 : ((xs (Int32.toNatClampNeg x3)) &&& 15) = 11
    · skip
      refine s_tableIn (off := 384) (tgt := 417) hJ d_L_33 (by rw [c12]; decide) (by rw [c12]; decide) (by rw [c12]; decide) rfl ?_
      refine s_aload_n hJ d_L_417 rfl ?_
      exact s_V0 hJ lm_11_64 d_L_418 (Nat.le_of_ble_eq_true rfl) k0 (h27 c0 c1 c2 c3 c4 c5 c6 c7 c8 c9 c10 c11 c12)
    by_cases c13 : ((xs (Int32.toNatClampNeg x3)) &&& 15) = 12
    · skip
      refine s_tableIn (off := 397) (tgt := 430) hJ d_L_33 (by rw [c13]; decide) (by rw [c13]; decide) (by rw [c13]; decide) rfl ?_
      refine s_aload_n hJ d_L_430 rfl ?_
      refine s_aload_n hJ d_L_431 rfl ?_
      refine s_iload_n hJ d_L_432 rfl ?_
      refine s_iconst_1 hJ d_L_433 ?_
      refine s_iadd hJ d_L_434 ?_
      refine s_sald hJ d_L_435 hX (h28 c0 c1 c2 c3 c4 c5 c6 c7 c8 c9 c10 c11 c12 c13) ?_
      exact s_V1 hJ lm_11_68 d_L_436 (Nat.le_of_ble_eq_true rfl) k0 (h29 c0 c1 c2 c3 c4 c5 c6 c7 c8 c9 c10 c11 c12 c13)
    by_cases c14 : ((xs (Int32.toNatClampNeg x3)) &&& 15) = 13
    · skip
      refine s_tableIn (off := 420) (tgt := 453) hJ d_L_33 (by rw [c14]; decide) (by rw [c14]; decide) (by rw [c14]; decide) rfl ?_
      refine s_aload_n hJ d_L_453 rfl ?_
      refine s_aload_n hJ d_L_454 rfl ?_
      refine s_iload_n hJ d_L_455 rfl ?_
      refine s_iconst_1 hJ d_L_456 ?_
      refine s_iadd hJ d_L_457 ?_
      refine s_sald hJ d_L_458 hX (h30 c0 c1 c2 c3 c4 c5 c6 c7 c8 c9 c10 c11 c12 c13 c14) ?_
      refine s_aload_n hJ d_L_459 rfl ?_
      refine s_iload_n hJ d_L_460 rfl ?_
      refine s_iconst_2 hJ d_L_461 ?_
      refine s_iadd hJ d_L_462 ?_
      refine s_sald hJ d_L_463 hX (h31 c0 c1 c2 c3 c4 c5 c6 c7 c8 c9 c10 c11 c12 c13 c14) ?_
      exact s_V2 hJ lm_11_72 d_L_464 (Nat.le_of_ble_eq_true rfl) k0 (h32 c0 c1 c2 c3 c4 c5 c6 c7 c8 c9 c10 c11 c12 c13 c14)
    by_cases c15 : ((xs (Int32.toNatClampNeg x3)) &&& 15) = 14
    · skip
      refine s_tableIn (off := 453) (tgt := 486) hJ d_L_33 (by rw [c15]; decide) (by rw [c15]; decide) (by rw [c15]; decide) rfl ?_
      refine s_aload_n hJ d_L_486 rfl ?_
      refine s_aload_n hJ d_L_487 rfl ?_
      refine s_iload_n hJ d_L_488 rfl ?_
      refine s_iconst_1 hJ d_L_489 ?_
      refine s_iadd hJ d_L_490 ?_
      refine s_sald hJ d_L_491 hX (h33 c0 c1 c2 c3 c4 c5 c6 c7 c8 c9 c10 c11 c12 c13 c14 c15) ?_
      refine s_i2l hJ d_L_492 ?_
      refine s_bipush (v := 32) hJ d_L_493 (by decide) ?_
      refine s_lshl hJ d_L_495 ?_
      refine s_aload_n hJ d_L_496 rfl ?_
      refine s_iload_n hJ d_L_497 rfl ?_
      refine s_iconst_2 hJ d_L_498 ?_
      refine s_iadd hJ d_L_499 ?_
      refine s_sald hJ d_L_500 hX (h34 c0 c1 c2 c3 c4 c5 c6 c7 c8 c9 c10 c11 c12 c13 c14 c15) ?_
      refine s_i2l hJ d_L_501 ?_
      refine s_ldc2 hJ ll_11_18 d_L_502 ?_
      refine s_land hJ d_L_505 ?_
      refine s_lor hJ d_L_506 ?_
      refine s_aload_n hJ d_L_507 rfl ?_
      refine s_iload_n hJ d_L_508 rfl ?_
      refine s_iconst_3 hJ d_L_509 ?_
      refine s_iadd hJ d_L_510 ?_
      refine s_sald hJ d_L_511 hX (h35 c0 c1 c2 c3 c4 c5 c6 c7 c8 c9 c10 c11 c12 c13 c14 c15) ?_
      exact s_V2 hJ lm_11_77 d_L_512 (Nat.le_of_ble_eq_true rfl) k0 (h36 c0 c1 c2 c3 c4 c5 c6 c7 c8 c9 c10 c11 c12 c13 c14 c15)
    by_cases c16 : ((xs (Int32.toNatClampNeg x3)) &&& 15) = 15
    · skip
      refine s_tableIn (off := 516) (tgt := 549) hJ d_L_33 (by rw [c16]; decide) (by rw [c16]; decide) (by rw [c16]; decide) rfl ?_
      refine s_aload_n hJ d_L_549 rfl ?_
      refine s_aload_n hJ d_L_550 rfl ?_
      refine s_iload_n hJ d_L_551 rfl ?_
      refine s_iconst_1 hJ d_L_552 ?_
      refine s_iadd hJ d_L_553 ?_
      refine s_sald hJ d_L_554 hX (h37 c0 c1 c2 c3 c4 c5 c6 c7 c8 c9 c10 c11 c12 c13 c14 c15 c16) ?_
      exact s_V1 hJ lm_11_82 d_L_555 (Nat.le_of_ble_eq_true rfl) k0 (h38 c0 c1 c2 c3 c4 c5 c6 c7 c8 c9 c10 c11 c12 c13 c14 c15 c16)
    refine s_tableOut (tgt := 572) hJ d_L_33 (by have := lv_neT (k := 0) (a := 0) c1 (by decide); have := lv_neT (k := 1) (a := 1) c2 (by decide); have := lv_neT (k := 2) (a := 2) c3 (by decide); have := lv_neT (k := 3) (a := 3) c4 (by decide); have := lv_neT (k := 4) (a := 4) c5 (by decide); have := lv_neT (k := 5) (a := 5) c6 (by decide); have := lv_neT (k := 6) (a := 6) c7 (by decide); have := lv_neT (k := 7) (a := 7) c8 (by decide); have := lv_neT (k := 8) (a := 8) c9 (by decide); have := lv_neT (k := 9) (a := 9) c10 (by decide); have := lv_neT (k := 10) (a := 10) c11 (by decide); have := lv_neT (k := 11) (a := 11) c12 (by decide); have := lv_neT (k := 12) (a := 12) c13 (by decide); have := lv_neT (k := 13) (a := 13) c14 (by decide); have := lv_neT (k := 14) (a := 14) c15 (by decide); have := lv_neT (k := 15) (a := 15) c16 (by decide); omega) rfl ?_
    refine s_iinc (v := 6) hJ d_L_572 rfl (by decide) ?_
    refine s_goto (tgt := 18) hJ d_L_575 rfl ?_
    exact h39 c0 c1 c2 c3 c4 c5 c6 c7 c8 c9 c10 c11 c12 c13 c14 c15 c16
set_option maxRecDepth 4000 in
theorem b_L_116 {mc ms : Nat} {X : Option (Nat × (Nat → Int32))} {T : aj_Tt} {Q : aj_Q} {J : aj_J} (hJ : aj_Cl 11 code ret false mc ms X T Q J) {o1 : Nat} {o2 : Nat} {x3 : Int32} {s0 : Int32} {nX : Nat} {xs : Nat → Int32} {Z : aj_Z} {I : aj_I} {G : aj_G} {C : Nat × Nat} (hX : X = some (nX, xs)) (k0 : Z.2.1 o2 = some (.inl 1)) (h0 : T 0 0 20 [.ref o2] Z I G (fun r Z1 I1 G1 => J 120 [some (.ref 1), some (.ref o1), some (.ref o2), some (.int x3)] (r.toList ++ [.int s0]) Z1 I1 G1 C)) : J 116 [some (.ref 1), some (.ref o1), some (.ref o2), some (.int x3)] [.int s0] Z I G C := by
  refine s_aload_n hJ d_L_116 rfl ?_
  exact s_V0 hJ lm_11_17 d_L_117 (Nat.le_of_ble_eq_true rfl) k0 (h0)
set_option maxRecDepth 4000 in
theorem b_L_120 {mc ms : Nat} {X : Option (Nat × (Nat → Int32))} {T : aj_Tt} {Q : aj_Q} {J : aj_J} (hJ : aj_Cl 11 code ret false mc ms X T Q J) {o1 : Nat} {o2 : Nat} {x3 : Int32} {s0 : Int32} {s1 : Int32} {nX : Nat} {xs : Nat → Int32} {Z : aj_Z} {I : aj_I} {G : aj_G} {C : Nat × Nat} (hX : X = some (nX, xs)) (h0 : s1 = s0 → J 18 [some (.ref 1), some (.ref o1), some (.ref o2), some (.int (x3 + 6))] [] Z I G C) (h1 : ¬ s1 = s0 → Q (some (.int 0)) Z I G) : J 120 [some (.ref 1), some (.ref o1), some (.ref o2), some (.int x3)] [.int s0, .int s1] Z I G C := by
  refine s_icmp_eq (tgt := 572) hJ d_L_120 rfl (fun c0 => ?_) (fun c0 => ?_)
  · skip
    refine s_iinc (v := 6) hJ d_L_572 rfl (by decide) ?_
    refine s_goto (tgt := 18) hJ d_L_575 rfl ?_
    exact h0 c0
  · skip
    refine s_iconst_0 hJ d_L_123 ?_
    exact s_iret hJ d_L_124 rfl rfl (h1 c0)
set_option maxRecDepth 4000 in
theorem b_L_164 {mc ms : Nat} {X : Option (Nat × (Nat → Int32))} {T : aj_Tt} {Q : aj_Q} {J : aj_J} (hJ : aj_Cl 11 code ret false mc ms X T Q J) {o1 : Nat} {o2 : Nat} {x3 : Int32} {s0 : Int32} {nX : Nat} {xs : Nat → Int32} {Z : aj_Z} {I : aj_I} {G : aj_G} {C : Nat × Nat} (hX : X = some (nX, xs)) (h0 : vp_in (x3 + 1) nX) (h1 : vp_in (x3 + 2) nX) (h2 : vp_in (x3 + 3) nX) (h3 : vp_in (x3 + 4) nX) (h4 : vp_in (x3 + 5) nX) (k0 : Z.2.1 o2 = some (.inl 1)) (h5 : T 0 0 23 [.ref o2, .int (xs (Int32.toNatClampNeg (x3 + 1))), .int (xs (Int32.toNatClampNeg (x3 + 2))), .long (((Int32.toInt64 (xs (Int32.toNatClampNeg (x3 + 3)))) <<< (Int32.toInt64 32 &&& 63)) ||| ((Int32.toInt64 (xs (Int32.toNatClampNeg (x3 + 4)))) &&& 4294967295)), .int (xs (Int32.toNatClampNeg (x3 + 5)))] Z I G (fun r Z1 I1 G1 => J 203 [some (.ref 1), some (.ref o1), some (.ref o2), some (.int x3)] (r.toList ++ [.int s0]) Z1 I1 G1 C)) : J 164 [some (.ref 1), some (.ref o1), some (.ref o2), some (.int x3)] [.int s0] Z I G C := by
  refine s_aload_n hJ d_L_164 rfl ?_
  refine s_aload_n hJ d_L_165 rfl ?_
  refine s_iload_n hJ d_L_166 rfl ?_
  refine s_iconst_1 hJ d_L_167 ?_
  refine s_iadd hJ d_L_168 ?_
  refine s_sald hJ d_L_169 hX (h0) ?_
  refine s_aload_n hJ d_L_170 rfl ?_
  refine s_iload_n hJ d_L_171 rfl ?_
  refine s_iconst_2 hJ d_L_172 ?_
  refine s_iadd hJ d_L_173 ?_
  refine s_sald hJ d_L_174 hX (h1) ?_
  refine s_aload_n hJ d_L_175 rfl ?_
  refine s_iload_n hJ d_L_176 rfl ?_
  refine s_iconst_3 hJ d_L_177 ?_
  refine s_iadd hJ d_L_178 ?_
  refine s_sald hJ d_L_179 hX (h2) ?_
  refine s_i2l hJ d_L_180 ?_
  refine s_bipush (v := 32) hJ d_L_181 (by decide) ?_
  refine s_lshl hJ d_L_183 ?_
  refine s_aload_n hJ d_L_184 rfl ?_
  refine s_iload_n hJ d_L_185 rfl ?_
  refine s_iconst_4 hJ d_L_186 ?_
  refine s_iadd hJ d_L_187 ?_
  refine s_sald hJ d_L_188 hX (h3) ?_
  refine s_i2l hJ d_L_189 ?_
  refine s_ldc2 hJ ll_11_18 d_L_190 ?_
  refine s_land hJ d_L_193 ?_
  refine s_lor hJ d_L_194 ?_
  refine s_aload_n hJ d_L_195 rfl ?_
  refine s_iload_n hJ d_L_196 rfl ?_
  refine s_iconst_5 hJ d_L_197 ?_
  refine s_iadd hJ d_L_198 ?_
  refine s_sald hJ d_L_199 hX (h4) ?_
  exact s_V4 hJ lm_11_24 d_L_200 (Nat.le_of_ble_eq_true rfl) k0 (h5)
set_option maxRecDepth 4000 in
theorem b_L_203 {mc ms : Nat} {X : Option (Nat × (Nat → Int32))} {T : aj_Tt} {Q : aj_Q} {J : aj_J} (hJ : aj_Cl 11 code ret false mc ms X T Q J) {o1 : Nat} {o2 : Nat} {x3 : Int32} {s0 : Int32} {s1 : Int32} {nX : Nat} {xs : Nat → Int32} {Z : aj_Z} {I : aj_I} {G : aj_G} {C : Nat × Nat} (hX : X = some (nX, xs)) (h0 : s1 = s0 → J 18 [some (.ref 1), some (.ref o1), some (.ref o2), some (.int (x3 + 6))] [] Z I G C) (h1 : ¬ s1 = s0 → Q (some (.int 0)) Z I G) : J 203 [some (.ref 1), some (.ref o1), some (.ref o2), some (.int x3)] [.int s0, .int s1] Z I G C := by
  refine s_icmp_eq (tgt := 572) hJ d_L_203 rfl (fun c0 => ?_) (fun c0 => ?_)
  · skip
    refine s_iinc (v := 6) hJ d_L_572 rfl (by decide) ?_
    refine s_goto (tgt := 18) hJ d_L_575 rfl ?_
    exact h0 c0
  · skip
    refine s_iconst_0 hJ d_L_206 ?_
    exact s_iret hJ d_L_207 rfl rfl (h1 c0)
set_option maxRecDepth 4000 in
theorem b_L_212 {mc ms : Nat} {X : Option (Nat × (Nat → Int32))} {T : aj_Tt} {Q : aj_Q} {J : aj_J} (hJ : aj_Cl 11 code ret false mc ms X T Q J) {o1 : Nat} {o2 : Nat} {x3 : Int32} {s0 : Int32} {nX : Nat} {xs : Nat → Int32} {Z : aj_Z} {I : aj_I} {G : aj_G} {C : Nat × Nat} (hX : X = some (nX, xs)) (k0 : Z.2.1 o2 = some (.inl 1)) (h0 : T 0 0 24 [.ref o2] Z I G (fun r Z1 I1 G1 => J 216 [some (.ref 1), some (.ref o1), some (.ref o2), some (.int x3)] (r.toList ++ [.int s0]) Z1 I1 G1 C)) : J 212 [some (.ref 1), some (.ref o1), some (.ref o2), some (.int x3)] [.int s0] Z I G C := by
  refine s_aload_n hJ d_L_212 rfl ?_
  exact s_V0 hJ lm_11_28 d_L_213 (Nat.le_of_ble_eq_true rfl) k0 (h0)
set_option maxRecDepth 4000 in
theorem b_L_216 {mc ms : Nat} {X : Option (Nat × (Nat → Int32))} {T : aj_Tt} {Q : aj_Q} {J : aj_J} (hJ : aj_Cl 11 code ret false mc ms X T Q J) {o1 : Nat} {o2 : Nat} {x3 : Int32} {s0 : Int32} {s1 : Int32} {nX : Nat} {xs : Nat → Int32} {Z : aj_Z} {I : aj_I} {G : aj_G} {C : Nat × Nat} (hX : X = some (nX, xs)) (h0 : s1 = s0 → J 18 [some (.ref 1), some (.ref o1), some (.ref o2), some (.int (x3 + 6))] [] Z I G C) (h1 : ¬ s1 = s0 → Q (some (.int 0)) Z I G) : J 216 [some (.ref 1), some (.ref o1), some (.ref o2), some (.int x3)] [.int s0, .int s1] Z I G C := by
  refine s_icmp_eq (tgt := 572) hJ d_L_216 rfl (fun c0 => ?_) (fun c0 => ?_)
  · skip
    refine s_iinc (v := 6) hJ d_L_572 rfl (by decide) ?_
    refine s_goto (tgt := 18) hJ d_L_575 rfl ?_
    exact h0 c0
  · skip
    refine s_iconst_0 hJ d_L_219 ?_
    exact s_iret hJ d_L_220 rfl rfl (h1 c0)
set_option maxRecDepth 4000 in
theorem b_L_235 {mc ms : Nat} {X : Option (Nat × (Nat → Int32))} {T : aj_Tt} {Q : aj_Q} {J : aj_J} (hJ : aj_Cl 11 code ret false mc ms X T Q J) {o1 : Nat} {o2 : Nat} {x3 : Int32} {s0 : Int32} {nX : Nat} {xs : Nat → Int32} {Z : aj_Z} {I : aj_I} {G : aj_G} {C : Nat × Nat} (hX : X = some (nX, xs)) (h0 : vp_in (x3 + 1) nX) (h1 : vp_in (x3 + 2) nX) (k0 : Z.2.1 o2 = some (.inl 1)) (h2 : T 0 0 40 [.ref o2, .int (xs (Int32.toNatClampNeg (x3 + 1))), .int (xs (Int32.toNatClampNeg (x3 + 2)))] Z I G (fun r Z1 I1 G1 => J 249 [some (.ref 1), some (.ref o1), some (.ref o2), some (.int x3)] (r.toList ++ [.int s0]) Z1 I1 G1 C)) : J 235 [some (.ref 1), some (.ref o1), some (.ref o2), some (.int x3)] [.int s0] Z I G C := by
  refine s_aload_n hJ d_L_235 rfl ?_
  refine s_aload_n hJ d_L_236 rfl ?_
  refine s_iload_n hJ d_L_237 rfl ?_
  refine s_iconst_1 hJ d_L_238 ?_
  refine s_iadd hJ d_L_239 ?_
  refine s_sald hJ d_L_240 hX (h0) ?_
  refine s_aload_n hJ d_L_241 rfl ?_
  refine s_iload_n hJ d_L_242 rfl ?_
  refine s_iconst_2 hJ d_L_243 ?_
  refine s_iadd hJ d_L_244 ?_
  refine s_sald hJ d_L_245 hX (h1) ?_
  exact s_V2 hJ lm_11_33 d_L_246 (Nat.le_of_ble_eq_true rfl) k0 (h2)
set_option maxRecDepth 4000 in
theorem b_L_249 {mc ms : Nat} {X : Option (Nat × (Nat → Int32))} {T : aj_Tt} {Q : aj_Q} {J : aj_J} (hJ : aj_Cl 11 code ret false mc ms X T Q J) {o1 : Nat} {o2 : Nat} {x3 : Int32} {s0 : Int32} {s1 : Int32} {nX : Nat} {xs : Nat → Int32} {Z : aj_Z} {I : aj_I} {G : aj_G} {C : Nat × Nat} (hX : X = some (nX, xs)) (h0 : s1 = s0 → J 18 [some (.ref 1), some (.ref o1), some (.ref o2), some (.int (x3 + 6))] [] Z I G C) (h1 : ¬ s1 = s0 → Q (some (.int 0)) Z I G) : J 249 [some (.ref 1), some (.ref o1), some (.ref o2), some (.int x3)] [.int s0, .int s1] Z I G C := by
  refine s_icmp_eq (tgt := 572) hJ d_L_249 rfl (fun c0 => ?_) (fun c0 => ?_)
  · skip
    refine s_iinc (v := 6) hJ d_L_572 rfl (by decide) ?_
    refine s_goto (tgt := 18) hJ d_L_575 rfl ?_
    exact h0 c0
  · skip
    refine s_iconst_0 hJ d_L_252 ?_
    exact s_iret hJ d_L_253 rfl rfl (h1 c0)
set_option maxRecDepth 4000 in
theorem b_L_258 {mc ms : Nat} {X : Option (Nat × (Nat → Int32))} {T : aj_Tt} {Q : aj_Q} {J : aj_J} (hJ : aj_Cl 11 code ret false mc ms X T Q J) {o1 : Nat} {o2 : Nat} {x3 : Int32} {s0 : Int32} {nX : Nat} {xs : Nat → Int32} {Z : aj_Z} {I : aj_I} {G : aj_G} {C : Nat × Nat} (hX : X = some (nX, xs)) (k0 : Z.2.1 o2 = some (.inl 1)) (h0 : T 0 0 67 [.ref o2] Z I G (fun r Z1 I1 G1 => J 262 [some (.ref 1), some (.ref o1), some (.ref o2), some (.int x3)] (r.toList ++ [.int s0]) Z1 I1 G1 C)) : J 258 [some (.ref 1), some (.ref o1), some (.ref o2), some (.int x3)] [.int s0] Z I G C := by
  refine s_aload_n hJ d_L_258 rfl ?_
  exact s_V0 hJ lm_11_37 d_L_259 (Nat.le_of_ble_eq_true rfl) k0 (h0)
set_option maxRecDepth 4000 in
theorem b_L_262 {mc ms : Nat} {X : Option (Nat × (Nat → Int32))} {T : aj_Tt} {Q : aj_Q} {J : aj_J} (hJ : aj_Cl 11 code ret false mc ms X T Q J) {o1 : Nat} {o2 : Nat} {x3 : Int32} {s0 : Int32} {s1 : Int32} {nX : Nat} {xs : Nat → Int32} {Z : aj_Z} {I : aj_I} {G : aj_G} {C : Nat × Nat} (hX : X = some (nX, xs)) (h0 : s1 = s0 → J 18 [some (.ref 1), some (.ref o1), some (.ref o2), some (.int (x3 + 6))] [] Z I G C) (h1 : ¬ s1 = s0 → Q (some (.int 0)) Z I G) : J 262 [some (.ref 1), some (.ref o1), some (.ref o2), some (.int x3)] [.int s0, .int s1] Z I G C := by
  refine s_icmp_eq (tgt := 572) hJ d_L_262 rfl (fun c0 => ?_) (fun c0 => ?_)
  · skip
    refine s_iinc (v := 6) hJ d_L_572 rfl (by decide) ?_
    refine s_goto (tgt := 18) hJ d_L_575 rfl ?_
    exact h0 c0
  · skip
    refine s_iconst_0 hJ d_L_265 ?_
    exact s_iret hJ d_L_266 rfl rfl (h1 c0)
set_option maxRecDepth 4000 in
theorem b_L_271 {mc ms : Nat} {X : Option (Nat × (Nat → Int32))} {T : aj_Tt} {Q : aj_Q} {J : aj_J} (hJ : aj_Cl 11 code ret false mc ms X T Q J) {o1 : Nat} {o2 : Nat} {x3 : Int32} {s0 : Int32} {nX : Nat} {xs : Nat → Int32} {Z : aj_Z} {I : aj_I} {G : aj_G} {C : Nat × Nat} (hX : X = some (nX, xs)) (k0 : Z.2.1 o2 = some (.inl 1)) (h0 : T 0 0 68 [.ref o2] Z I G (fun r Z1 I1 G1 => J 275 [some (.ref 1), some (.ref o1), some (.ref o2), some (.int x3)] (r.toList ++ [.int s0]) Z1 I1 G1 C)) : J 271 [some (.ref 1), some (.ref o1), some (.ref o2), some (.int x3)] [.int s0] Z I G C := by
  refine s_aload_n hJ d_L_271 rfl ?_
  exact s_V0 hJ lm_11_41 d_L_272 (Nat.le_of_ble_eq_true rfl) k0 (h0)
set_option maxRecDepth 4000 in
theorem b_L_275 {mc ms : Nat} {X : Option (Nat × (Nat → Int32))} {T : aj_Tt} {Q : aj_Q} {J : aj_J} (hJ : aj_Cl 11 code ret false mc ms X T Q J) {o1 : Nat} {o2 : Nat} {x3 : Int32} {s0 : Int32} {s1 : Int32} {nX : Nat} {xs : Nat → Int32} {Z : aj_Z} {I : aj_I} {G : aj_G} {C : Nat × Nat} (hX : X = some (nX, xs)) (h0 : s1 = s0 → J 18 [some (.ref 1), some (.ref o1), some (.ref o2), some (.int (x3 + 6))] [] Z I G C) (h1 : ¬ s1 = s0 → Q (some (.int 0)) Z I G) : J 275 [some (.ref 1), some (.ref o1), some (.ref o2), some (.int x3)] [.int s0, .int s1] Z I G C := by
  refine s_icmp_eq (tgt := 572) hJ d_L_275 rfl (fun c0 => ?_) (fun c0 => ?_)
  · skip
    refine s_iinc (v := 6) hJ d_L_572 rfl (by decide) ?_
    refine s_goto (tgt := 18) hJ d_L_575 rfl ?_
    exact h0 c0
  · skip
    refine s_iconst_0 hJ d_L_278 ?_
    exact s_iret hJ d_L_279 rfl rfl (h1 c0)
set_option maxRecDepth 4000 in
theorem b_L_284 {mc ms : Nat} {X : Option (Nat × (Nat → Int32))} {T : aj_Tt} {Q : aj_Q} {J : aj_J} (hJ : aj_Cl 11 code ret false mc ms X T Q J) {o1 : Nat} {o2 : Nat} {x3 : Int32} {s0 : Int32} {nX : Nat} {xs : Nat → Int32} {Z : aj_Z} {I : aj_I} {G : aj_G} {C : Nat × Nat} (hX : X = some (nX, xs)) (k0 : Z.2.1 o2 = some (.inl 1)) (h0 : T 0 0 69 [.ref o2] Z I G (fun r Z1 I1 G1 => J 288 [some (.ref 1), some (.ref o1), some (.ref o2), some (.int x3)] (r.toList ++ [.int s0]) Z1 I1 G1 C)) : J 284 [some (.ref 1), some (.ref o1), some (.ref o2), some (.int x3)] [.int s0] Z I G C := by
  refine s_aload_n hJ d_L_284 rfl ?_
  exact s_V0 hJ lm_11_45 d_L_285 (Nat.le_of_ble_eq_true rfl) k0 (h0)
set_option maxRecDepth 4000 in
theorem b_L_288 {mc ms : Nat} {X : Option (Nat × (Nat → Int32))} {T : aj_Tt} {Q : aj_Q} {J : aj_J} (hJ : aj_Cl 11 code ret false mc ms X T Q J) {o1 : Nat} {o2 : Nat} {x3 : Int32} {s0 : Int32} {s1 : Int32} {nX : Nat} {xs : Nat → Int32} {Z : aj_Z} {I : aj_I} {G : aj_G} {C : Nat × Nat} (hX : X = some (nX, xs)) (h0 : s1 = s0 → J 18 [some (.ref 1), some (.ref o1), some (.ref o2), some (.int (x3 + 6))] [] Z I G C) (h1 : ¬ s1 = s0 → Q (some (.int 0)) Z I G) : J 288 [some (.ref 1), some (.ref o1), some (.ref o2), some (.int x3)] [.int s0, .int s1] Z I G C := by
  refine s_icmp_eq (tgt := 572) hJ d_L_288 rfl (fun c0 => ?_) (fun c0 => ?_)
  · skip
    refine s_iinc (v := 6) hJ d_L_572 rfl (by decide) ?_
    refine s_goto (tgt := 18) hJ d_L_575 rfl ?_
    exact h0 c0
  · skip
    refine s_iconst_0 hJ d_L_291 ?_
    exact s_iret hJ d_L_292 rfl rfl (h1 c0)
set_option maxRecDepth 4000 in
theorem b_L_302 {mc ms : Nat} {X : Option (Nat × (Nat → Int32))} {T : aj_Tt} {Q : aj_Q} {J : aj_J} (hJ : aj_Cl 11 code ret false mc ms X T Q J) {o1 : Nat} {o2 : Nat} {x3 : Int32} {s0 : Int32} {nX : Nat} {xs : Nat → Int32} {Z : aj_Z} {I : aj_I} {G : aj_G} {C : Nat × Nat} (hX : X = some (nX, xs)) (h0 : vp_in (x3 + 1) nX) (k0 : Z.2.1 o2 = some (.inl 1)) (h1 : T 0 0 70 [.ref o2, .int (xs (Int32.toNatClampNeg (x3 + 1)))] Z I G (fun r Z1 I1 G1 => J 311 [some (.ref 1), some (.ref o1), some (.ref o2), some (.int x3)] (r.toList ++ [.int s0]) Z1 I1 G1 C)) : J 302 [some (.ref 1), some (.ref o1), some (.ref o2), some (.int x3)] [.int s0] Z I G C := by
  refine s_aload_n hJ d_L_302 rfl ?_
  refine s_aload_n hJ d_L_303 rfl ?_
  refine s_iload_n hJ d_L_304 rfl ?_
  refine s_iconst_1 hJ d_L_305 ?_
  refine s_iadd hJ d_L_306 ?_
  refine s_sald hJ d_L_307 hX (h0) ?_
  exact s_V1 hJ lm_11_50 d_L_308 (Nat.le_of_ble_eq_true rfl) k0 (h1)
set_option maxRecDepth 4000 in
theorem b_L_311 {mc ms : Nat} {X : Option (Nat × (Nat → Int32))} {T : aj_Tt} {Q : aj_Q} {J : aj_J} (hJ : aj_Cl 11 code ret false mc ms X T Q J) {o1 : Nat} {o2 : Nat} {x3 : Int32} {s0 : Int32} {s1 : Int32} {nX : Nat} {xs : Nat → Int32} {Z : aj_Z} {I : aj_I} {G : aj_G} {C : Nat × Nat} (hX : X = some (nX, xs)) (h0 : s1 = s0 → J 18 [some (.ref 1), some (.ref o1), some (.ref o2), some (.int (x3 + 6))] [] Z I G C) (h1 : ¬ s1 = s0 → Q (some (.int 0)) Z I G) : J 311 [some (.ref 1), some (.ref o1), some (.ref o2), some (.int x3)] [.int s0, .int s1] Z I G C := by
  refine s_icmp_eq (tgt := 572) hJ d_L_311 rfl (fun c0 => ?_) (fun c0 => ?_)
  · skip
    refine s_iinc (v := 6) hJ d_L_572 rfl (by decide) ?_
    refine s_goto (tgt := 18) hJ d_L_575 rfl ?_
    exact h0 c0
  · skip
    refine s_iconst_0 hJ d_L_314 ?_
    exact s_iret hJ d_L_315 rfl rfl (h1 c0)
set_option maxRecDepth 4000 in
theorem b_L_330 {mc ms : Nat} {X : Option (Nat × (Nat → Int32))} {T : aj_Tt} {Q : aj_Q} {J : aj_J} (hJ : aj_Cl 11 code ret false mc ms X T Q J) {o1 : Nat} {o2 : Nat} {x3 : Int32} {s0 : Int32} {nX : Nat} {xs : Nat → Int32} {Z : aj_Z} {I : aj_I} {G : aj_G} {C : Nat × Nat} (hX : X = some (nX, xs)) (h0 : vp_in (x3 + 1) nX) (h1 : vp_in (x3 + 2) nX) (k0 : Z.2.1 o2 = some (.inl 1)) (h2 : T 0 0 71 [.ref o2, .int (xs (Int32.toNatClampNeg (x3 + 1))), .int (xs (Int32.toNatClampNeg (x3 + 2)))] Z I G (fun r Z1 I1 G1 => J 344 [some (.ref 1), some (.ref o1), some (.ref o2), some (.int x3)] (r.toList ++ [.int s0]) Z1 I1 G1 C)) : J 330 [some (.ref 1), some (.ref o1), some (.ref o2), some (.int x3)] [.int s0] Z I G C := by
  refine s_aload_n hJ d_L_330 rfl ?_
  refine s_aload_n hJ d_L_331 rfl ?_
  refine s_iload_n hJ d_L_332 rfl ?_
  refine s_iconst_1 hJ d_L_333 ?_
  refine s_iadd hJ d_L_334 ?_
  refine s_sald hJ d_L_335 hX (h0) ?_
  refine s_aload_n hJ d_L_336 rfl ?_
  refine s_iload_n hJ d_L_337 rfl ?_
  refine s_iconst_2 hJ d_L_338 ?_
  refine s_iadd hJ d_L_339 ?_
  refine s_sald hJ d_L_340 hX (h1) ?_
  exact s_V2 hJ lm_11_54 d_L_341 (Nat.le_of_ble_eq_true rfl) k0 (h2)
set_option maxRecDepth 4000 in
theorem b_L_344 {mc ms : Nat} {X : Option (Nat × (Nat → Int32))} {T : aj_Tt} {Q : aj_Q} {J : aj_J} (hJ : aj_Cl 11 code ret false mc ms X T Q J) {o1 : Nat} {o2 : Nat} {x3 : Int32} {s0 : Int32} {s1 : Int32} {nX : Nat} {xs : Nat → Int32} {Z : aj_Z} {I : aj_I} {G : aj_G} {C : Nat × Nat} (hX : X = some (nX, xs)) (h0 : s1 = s0 → J 18 [some (.ref 1), some (.ref o1), some (.ref o2), some (.int (x3 + 6))] [] Z I G C) (h1 : ¬ s1 = s0 → Q (some (.int 0)) Z I G) : J 344 [some (.ref 1), some (.ref o1), some (.ref o2), some (.int x3)] [.int s0, .int s1] Z I G C := by
  refine s_icmp_eq (tgt := 572) hJ d_L_344 rfl (fun c0 => ?_) (fun c0 => ?_)
  · skip
    refine s_iinc (v := 6) hJ d_L_572 rfl (by decide) ?_
    refine s_goto (tgt := 18) hJ d_L_575 rfl ?_
    exact h0 c0
  · skip
    refine s_iconst_0 hJ d_L_347 ?_
    exact s_iret hJ d_L_348 rfl rfl (h1 c0)
set_option maxRecDepth 4000 in
theorem b_L_363 {mc ms : Nat} {X : Option (Nat × (Nat → Int32))} {T : aj_Tt} {Q : aj_Q} {J : aj_J} (hJ : aj_Cl 11 code ret false mc ms X T Q J) {o1 : Nat} {o2 : Nat} {x3 : Int32} {s0 : Int64} {nX : Nat} {xs : Nat → Int32} {Z : aj_Z} {I : aj_I} {G : aj_G} {C : Nat × Nat} (hX : X = some (nX, xs)) (h0 : vp_in (x3 + 1) nX) (h1 : vp_in (x3 + 2) nX) (k0 : Z.2.1 o2 = some (.inl 1)) (h2 : T 0 0 72 [.ref o2, .int (xs (Int32.toNatClampNeg (x3 + 1))), .int (xs (Int32.toNatClampNeg (x3 + 2)))] Z I G (fun r Z1 I1 G1 => J 377 [some (.ref 1), some (.ref o1), some (.ref o2), some (.int x3)] (r.toList ++ [.long s0]) Z1 I1 G1 C)) : J 363 [some (.ref 1), some (.ref o1), some (.ref o2), some (.int x3)] [.long s0] Z I G C := by
  refine s_aload_n hJ d_L_363 rfl ?_
  refine s_aload_n hJ d_L_364 rfl ?_
  refine s_iload_n hJ d_L_365 rfl ?_
  refine s_iconst_1 hJ d_L_366 ?_
  refine s_iadd hJ d_L_367 ?_
  refine s_sald hJ d_L_368 hX (h0) ?_
  refine s_aload_n hJ d_L_369 rfl ?_
  refine s_iload_n hJ d_L_370 rfl ?_
  refine s_iconst_2 hJ d_L_371 ?_
  refine s_iadd hJ d_L_372 ?_
  refine s_sald hJ d_L_373 hX (h1) ?_
  exact s_V2 hJ lm_11_59 d_L_374 (Nat.le_of_ble_eq_true rfl) k0 (h2)
set_option maxRecDepth 4000 in
theorem b_L_377 {mc ms : Nat} {X : Option (Nat × (Nat → Int32))} {T : aj_Tt} {Q : aj_Q} {J : aj_J} (hJ : aj_Cl 11 code ret false mc ms X T Q J) {o1 : Nat} {o2 : Nat} {x3 : Int32} {s0 : Int64} {s1 : Int64} {nX : Nat} {xs : Nat → Int32} {Z : aj_Z} {I : aj_I} {G : aj_G} {C : Nat × Nat} (hX : X = some (nX, xs)) (h0 : s1 = s0 → J 18 [some (.ref 1), some (.ref o1), some (.ref o2), some (.int (x3 + 6))] [] Z I G C) (h1 : ¬ s1 = s0 → Q (some (.int 0)) Z I G) : J 377 [some (.ref 1), some (.ref o1), some (.ref o2), some (.int x3)] [.long s0, .long s1] Z I G C := by
  refine s_lif_eq (tgt := 572) hJ d_L_377 d_L_378 rfl (fun c0 => ?_) (fun c0 => ?_)
  · skip
    refine s_iinc (v := 6) hJ d_L_572 rfl (by decide) ?_
    refine s_goto (tgt := 18) hJ d_L_575 rfl ?_
    exact h0 c0
  · skip
    refine s_iconst_0 hJ d_L_381 ?_
    exact s_iret hJ d_L_382 rfl rfl (h1 c0)
set_option maxRecDepth 4000 in
theorem b_L_397 {mc ms : Nat} {X : Option (Nat × (Nat → Int32))} {T : aj_Tt} {Q : aj_Q} {J : aj_J} (hJ : aj_Cl 11 code ret false mc ms X T Q J) {o1 : Nat} {o2 : Nat} {x3 : Int32} {s0 : Int64} {nX : Nat} {xs : Nat → Int32} {Z : aj_Z} {I : aj_I} {G : aj_G} {C : Nat × Nat} (hX : X = some (nX, xs)) (h0 : vp_in (x3 + 1) nX) (h1 : vp_in (x3 + 2) nX) (k0 : Z.2.1 o2 = some (.inl 1)) (h2 : T 0 0 73 [.ref o2, .int (xs (Int32.toNatClampNeg (x3 + 1))), .int (xs (Int32.toNatClampNeg (x3 + 2)))] Z I G (fun r Z1 I1 G1 => J 411 [some (.ref 1), some (.ref o1), some (.ref o2), some (.int x3)] (r.toList ++ [.long s0]) Z1 I1 G1 C)) : J 397 [some (.ref 1), some (.ref o1), some (.ref o2), some (.int x3)] [.long s0] Z I G C := by
  refine s_aload_n hJ d_L_397 rfl ?_
  refine s_aload_n hJ d_L_398 rfl ?_
  refine s_iload_n hJ d_L_399 rfl ?_
  refine s_iconst_1 hJ d_L_400 ?_
  refine s_iadd hJ d_L_401 ?_
  refine s_sald hJ d_L_402 hX (h0) ?_
  refine s_aload_n hJ d_L_403 rfl ?_
  refine s_iload_n hJ d_L_404 rfl ?_
  refine s_iconst_2 hJ d_L_405 ?_
  refine s_iadd hJ d_L_406 ?_
  refine s_sald hJ d_L_407 hX (h1) ?_
  exact s_V2 hJ lm_11_63 d_L_408 (Nat.le_of_ble_eq_true rfl) k0 (h2)
set_option maxRecDepth 4000 in
theorem b_L_411 {mc ms : Nat} {X : Option (Nat × (Nat → Int32))} {T : aj_Tt} {Q : aj_Q} {J : aj_J} (hJ : aj_Cl 11 code ret false mc ms X T Q J) {o1 : Nat} {o2 : Nat} {x3 : Int32} {s0 : Int64} {s1 : Int64} {nX : Nat} {xs : Nat → Int32} {Z : aj_Z} {I : aj_I} {G : aj_G} {C : Nat × Nat} (hX : X = some (nX, xs)) (h0 : s1 = s0 → J 18 [some (.ref 1), some (.ref o1), some (.ref o2), some (.int (x3 + 6))] [] Z I G C) (h1 : ¬ s1 = s0 → Q (some (.int 0)) Z I G) : J 411 [some (.ref 1), some (.ref o1), some (.ref o2), some (.int x3)] [.long s0, .long s1] Z I G C := by
  refine s_lif_eq (tgt := 572) hJ d_L_411 d_L_412 rfl (fun c0 => ?_) (fun c0 => ?_)
  · skip
    refine s_iinc (v := 6) hJ d_L_572 rfl (by decide) ?_
    refine s_goto (tgt := 18) hJ d_L_575 rfl ?_
    exact h0 c0
  · skip
    refine s_iconst_0 hJ d_L_415 ?_
    exact s_iret hJ d_L_416 rfl rfl (h1 c0)
set_option maxRecDepth 4000 in
theorem b_L_421 {mc ms : Nat} {X : Option (Nat × (Nat → Int32))} {T : aj_Tt} {Q : aj_Q} {J : aj_J} (hJ : aj_Cl 11 code ret false mc ms X T Q J) {o1 : Nat} {o2 : Nat} {x3 : Int32} {s0 : Int32} {nX : Nat} {xs : Nat → Int32} {Z : aj_Z} {I : aj_I} {G : aj_G} {C : Nat × Nat} (hX : X = some (nX, xs)) (k0 : Z.2.1 o2 = some (.inl 1)) (h0 : T 0 0 74 [.ref o2] Z I G (fun r Z1 I1 G1 => J 425 [some (.ref 1), some (.ref o1), some (.ref o2), some (.int x3)] (r.toList ++ [.int s0]) Z1 I1 G1 C)) : J 421 [some (.ref 1), some (.ref o1), some (.ref o2), some (.int x3)] [.int s0] Z I G C := by
  refine s_aload_n hJ d_L_421 rfl ?_
  exact s_V0 hJ lm_11_67 d_L_422 (Nat.le_of_ble_eq_true rfl) k0 (h0)
set_option maxRecDepth 4000 in
theorem b_L_425 {mc ms : Nat} {X : Option (Nat × (Nat → Int32))} {T : aj_Tt} {Q : aj_Q} {J : aj_J} (hJ : aj_Cl 11 code ret false mc ms X T Q J) {o1 : Nat} {o2 : Nat} {x3 : Int32} {s0 : Int32} {s1 : Int32} {nX : Nat} {xs : Nat → Int32} {Z : aj_Z} {I : aj_I} {G : aj_G} {C : Nat × Nat} (hX : X = some (nX, xs)) (h0 : s1 = s0 → J 18 [some (.ref 1), some (.ref o1), some (.ref o2), some (.int (x3 + 6))] [] Z I G C) (h1 : ¬ s1 = s0 → Q (some (.int 0)) Z I G) : J 425 [some (.ref 1), some (.ref o1), some (.ref o2), some (.int x3)] [.int s0, .int s1] Z I G C := by
  refine s_icmp_eq (tgt := 572) hJ d_L_425 rfl (fun c0 => ?_) (fun c0 => ?_)
  · skip
    refine s_iinc (v := 6) hJ d_L_572 rfl (by decide) ?_
    refine s_goto (tgt := 18) hJ d_L_575 rfl ?_
    exact h0 c0
  · skip
    refine s_iconst_0 hJ d_L_428 ?_
    exact s_iret hJ d_L_429 rfl rfl (h1 c0)
set_option maxRecDepth 4000 in
theorem b_L_439 {mc ms : Nat} {X : Option (Nat × (Nat → Int32))} {T : aj_Tt} {Q : aj_Q} {J : aj_J} (hJ : aj_Cl 11 code ret false mc ms X T Q J) {o1 : Nat} {o2 : Nat} {x3 : Int32} {s0 : Int32} {nX : Nat} {xs : Nat → Int32} {Z : aj_Z} {I : aj_I} {G : aj_G} {C : Nat × Nat} (hX : X = some (nX, xs)) (h0 : vp_in (x3 + 1) nX) (k0 : Z.2.1 o2 = some (.inl 1)) (h1 : T 0 0 76 [.ref o2, .int (xs (Int32.toNatClampNeg (x3 + 1)))] Z I G (fun r Z1 I1 G1 => J 448 [some (.ref 1), some (.ref o1), some (.ref o2), some (.int x3)] (r.toList ++ [.int s0]) Z1 I1 G1 C)) : J 439 [some (.ref 1), some (.ref o1), some (.ref o2), some (.int x3)] [.int s0] Z I G C := by
  refine s_aload_n hJ d_L_439 rfl ?_
  refine s_aload_n hJ d_L_440 rfl ?_
  refine s_iload_n hJ d_L_441 rfl ?_
  refine s_iconst_1 hJ d_L_442 ?_
  refine s_iadd hJ d_L_443 ?_
  refine s_sald hJ d_L_444 hX (h0) ?_
  exact s_V1 hJ lm_11_71 d_L_445 (Nat.le_of_ble_eq_true rfl) k0 (h1)
set_option maxRecDepth 4000 in
theorem b_L_448 {mc ms : Nat} {X : Option (Nat × (Nat → Int32))} {T : aj_Tt} {Q : aj_Q} {J : aj_J} (hJ : aj_Cl 11 code ret false mc ms X T Q J) {o1 : Nat} {o2 : Nat} {x3 : Int32} {s0 : Int32} {s1 : Int32} {nX : Nat} {xs : Nat → Int32} {Z : aj_Z} {I : aj_I} {G : aj_G} {C : Nat × Nat} (hX : X = some (nX, xs)) (h0 : s1 = s0 → J 18 [some (.ref 1), some (.ref o1), some (.ref o2), some (.int (x3 + 6))] [] Z I G C) (h1 : ¬ s1 = s0 → Q (some (.int 0)) Z I G) : J 448 [some (.ref 1), some (.ref o1), some (.ref o2), some (.int x3)] [.int s0, .int s1] Z I G C := by
  refine s_icmp_eq (tgt := 572) hJ d_L_448 rfl (fun c0 => ?_) (fun c0 => ?_)
  · skip
    refine s_iinc (v := 6) hJ d_L_572 rfl (by decide) ?_
    refine s_goto (tgt := 18) hJ d_L_575 rfl ?_
    exact h0 c0
  · skip
    refine s_iconst_0 hJ d_L_451 ?_
    exact s_iret hJ d_L_452 rfl rfl (h1 c0)
set_option maxRecDepth 4000 in
theorem b_L_467 {mc ms : Nat} {X : Option (Nat × (Nat → Int32))} {T : aj_Tt} {Q : aj_Q} {J : aj_J} (hJ : aj_Cl 11 code ret false mc ms X T Q J) {o1 : Nat} {o2 : Nat} {x3 : Int32} {s0 : Int32} {nX : Nat} {xs : Nat → Int32} {Z : aj_Z} {I : aj_I} {G : aj_G} {C : Nat × Nat} (hX : X = some (nX, xs)) (h0 : vp_in (x3 + 1) nX) (h1 : vp_in (x3 + 2) nX) (k0 : Z.2.1 o2 = some (.inl 1)) (h2 : T 0 0 77 [.ref o2, .int (xs (Int32.toNatClampNeg (x3 + 1))), .int (xs (Int32.toNatClampNeg (x3 + 2)))] Z I G (fun r Z1 I1 G1 => J 481 [some (.ref 1), some (.ref o1), some (.ref o2), some (.int x3)] (r.toList ++ [.int s0]) Z1 I1 G1 C)) : J 467 [some (.ref 1), some (.ref o1), some (.ref o2), some (.int x3)] [.int s0] Z I G C := by
  refine s_aload_n hJ d_L_467 rfl ?_
  refine s_aload_n hJ d_L_468 rfl ?_
  refine s_iload_n hJ d_L_469 rfl ?_
  refine s_iconst_1 hJ d_L_470 ?_
  refine s_iadd hJ d_L_471 ?_
  refine s_sald hJ d_L_472 hX (h0) ?_
  refine s_aload_n hJ d_L_473 rfl ?_
  refine s_iload_n hJ d_L_474 rfl ?_
  refine s_iconst_2 hJ d_L_475 ?_
  refine s_iadd hJ d_L_476 ?_
  refine s_sald hJ d_L_477 hX (h1) ?_
  exact s_V2 hJ lm_11_76 d_L_478 (Nat.le_of_ble_eq_true rfl) k0 (h2)
set_option maxRecDepth 4000 in
theorem b_L_481 {mc ms : Nat} {X : Option (Nat × (Nat → Int32))} {T : aj_Tt} {Q : aj_Q} {J : aj_J} (hJ : aj_Cl 11 code ret false mc ms X T Q J) {o1 : Nat} {o2 : Nat} {x3 : Int32} {s0 : Int32} {s1 : Int32} {nX : Nat} {xs : Nat → Int32} {Z : aj_Z} {I : aj_I} {G : aj_G} {C : Nat × Nat} (hX : X = some (nX, xs)) (h0 : s1 = s0 → J 18 [some (.ref 1), some (.ref o1), some (.ref o2), some (.int (x3 + 6))] [] Z I G C) (h1 : ¬ s1 = s0 → Q (some (.int 0)) Z I G) : J 481 [some (.ref 1), some (.ref o1), some (.ref o2), some (.int x3)] [.int s0, .int s1] Z I G C := by
  refine s_icmp_eq (tgt := 572) hJ d_L_481 rfl (fun c0 => ?_) (fun c0 => ?_)
  · skip
    refine s_iinc (v := 6) hJ d_L_572 rfl (by decide) ?_
    refine s_goto (tgt := 18) hJ d_L_575 rfl ?_
    exact h0 c0
  · skip
    refine s_iconst_0 hJ d_L_484 ?_
    exact s_iret hJ d_L_485 rfl rfl (h1 c0)
set_option maxRecDepth 4000 in
theorem b_L_515 {mc ms : Nat} {X : Option (Nat × (Nat → Int32))} {T : aj_Tt} {Q : aj_Q} {J : aj_J} (hJ : aj_Cl 11 code ret false mc ms X T Q J) {o1 : Nat} {o2 : Nat} {x3 : Int32} {s0 : Int32} {nX : Nat} {xs : Nat → Int32} {Z : aj_Z} {I : aj_I} {G : aj_G} {C : Nat × Nat} (hX : X = some (nX, xs)) (h0 : vp_in (x3 + 1) nX) (h1 : vp_in (x3 + 2) nX) (h2 : vp_in (x3 + 3) nX) (k0 : Z.2.1 o2 = some (.inl 1)) (h3 : T 0 0 78 [.ref o2, .long (((Int32.toInt64 (xs (Int32.toNatClampNeg (x3 + 1)))) <<< (Int32.toInt64 32 &&& 63)) ||| ((Int32.toInt64 (xs (Int32.toNatClampNeg (x3 + 2)))) &&& 4294967295)), .int (xs (Int32.toNatClampNeg (x3 + 3)))] Z I G (fun r Z1 I1 G1 => J 544 [some (.ref 1), some (.ref o1), some (.ref o2), some (.int x3)] (r.toList ++ [.int s0]) Z1 I1 G1 C)) : J 515 [some (.ref 1), some (.ref o1), some (.ref o2), some (.int x3)] [.int s0] Z I G C := by
  refine s_aload_n hJ d_L_515 rfl ?_
  refine s_aload_n hJ d_L_516 rfl ?_
  refine s_iload_n hJ d_L_517 rfl ?_
  refine s_iconst_1 hJ d_L_518 ?_
  refine s_iadd hJ d_L_519 ?_
  refine s_sald hJ d_L_520 hX (h0) ?_
  refine s_i2l hJ d_L_521 ?_
  refine s_bipush (v := 32) hJ d_L_522 (by decide) ?_
  refine s_lshl hJ d_L_524 ?_
  refine s_aload_n hJ d_L_525 rfl ?_
  refine s_iload_n hJ d_L_526 rfl ?_
  refine s_iconst_2 hJ d_L_527 ?_
  refine s_iadd hJ d_L_528 ?_
  refine s_sald hJ d_L_529 hX (h1) ?_
  refine s_i2l hJ d_L_530 ?_
  refine s_ldc2 hJ ll_11_18 d_L_531 ?_
  refine s_land hJ d_L_534 ?_
  refine s_lor hJ d_L_535 ?_
  refine s_aload_n hJ d_L_536 rfl ?_
  refine s_iload_n hJ d_L_537 rfl ?_
  refine s_iconst_3 hJ d_L_538 ?_
  refine s_iadd hJ d_L_539 ?_
  refine s_sald hJ d_L_540 hX (h2) ?_
  exact s_V2 hJ lm_11_81 d_L_541 (Nat.le_of_ble_eq_true rfl) k0 (h3)
set_option maxRecDepth 4000 in
theorem b_L_544 {mc ms : Nat} {X : Option (Nat × (Nat → Int32))} {T : aj_Tt} {Q : aj_Q} {J : aj_J} (hJ : aj_Cl 11 code ret false mc ms X T Q J) {o1 : Nat} {o2 : Nat} {x3 : Int32} {s0 : Int32} {s1 : Int32} {nX : Nat} {xs : Nat → Int32} {Z : aj_Z} {I : aj_I} {G : aj_G} {C : Nat × Nat} (hX : X = some (nX, xs)) (h0 : s1 = s0 → J 18 [some (.ref 1), some (.ref o1), some (.ref o2), some (.int (x3 + 6))] [] Z I G C) (h1 : ¬ s1 = s0 → Q (some (.int 0)) Z I G) : J 544 [some (.ref 1), some (.ref o1), some (.ref o2), some (.int x3)] [.int s0, .int s1] Z I G C := by
  refine s_icmp_eq (tgt := 572) hJ d_L_544 rfl (fun c0 => ?_) (fun c0 => ?_)
  · skip
    refine s_iinc (v := 6) hJ d_L_572 rfl (by decide) ?_
    refine s_goto (tgt := 18) hJ d_L_575 rfl ?_
    exact h0 c0
  · skip
    refine s_iconst_0 hJ d_L_547 ?_
    exact s_iret hJ d_L_548 rfl rfl (h1 c0)
set_option maxRecDepth 4000 in
theorem b_L_558 {mc ms : Nat} {X : Option (Nat × (Nat → Int32))} {T : aj_Tt} {Q : aj_Q} {J : aj_J} (hJ : aj_Cl 11 code ret false mc ms X T Q J) {o1 : Nat} {o2 : Nat} {x3 : Int32} {s0 : Int32} {nX : Nat} {xs : Nat → Int32} {Z : aj_Z} {I : aj_I} {G : aj_G} {C : Nat × Nat} (hX : X = some (nX, xs)) (h0 : vp_in (x3 + 1) nX) (k0 : Z.2.1 o2 = some (.inl 1)) (h1 : T 0 0 79 [.ref o2, .int (xs (Int32.toNatClampNeg (x3 + 1)))] Z I G (fun r Z1 I1 G1 => J 567 [some (.ref 1), some (.ref o1), some (.ref o2), some (.int x3)] (r.toList ++ [.int s0]) Z1 I1 G1 C)) : J 558 [some (.ref 1), some (.ref o1), some (.ref o2), some (.int x3)] [.int s0] Z I G C := by
  refine s_aload_n hJ d_L_558 rfl ?_
  refine s_aload_n hJ d_L_559 rfl ?_
  refine s_iload_n hJ d_L_560 rfl ?_
  refine s_iconst_1 hJ d_L_561 ?_
  refine s_iadd hJ d_L_562 ?_
  refine s_sald hJ d_L_563 hX (h0) ?_
  exact s_V1 hJ lm_11_86 d_L_564 (Nat.le_of_ble_eq_true rfl) k0 (h1)
set_option maxRecDepth 4000 in
theorem b_L_567 {mc ms : Nat} {X : Option (Nat × (Nat → Int32))} {T : aj_Tt} {Q : aj_Q} {J : aj_J} (hJ : aj_Cl 11 code ret false mc ms X T Q J) {o1 : Nat} {o2 : Nat} {x3 : Int32} {s0 : Int32} {s1 : Int32} {nX : Nat} {xs : Nat → Int32} {Z : aj_Z} {I : aj_I} {G : aj_G} {C : Nat × Nat} (hX : X = some (nX, xs)) (h0 : s1 = s0 → J 18 [some (.ref 1), some (.ref o1), some (.ref o2), some (.int (x3 + 6))] [] Z I G C) (h1 : ¬ s1 = s0 → Q (some (.int 0)) Z I G) : J 567 [some (.ref 1), some (.ref o1), some (.ref o2), some (.int x3)] [.int s0, .int s1] Z I G C := by
  refine s_icmp_eq (tgt := 572) hJ d_L_567 rfl (fun c0 => ?_) (fun c0 => ?_)
  · skip
    refine s_iinc (v := 6) hJ d_L_572 rfl (by decide) ?_
    refine s_goto (tgt := 18) hJ d_L_575 rfl ?_
    exact h0 c0
  · skip
    refine s_iconst_0 hJ d_L_570 ?_
    exact s_iret hJ d_L_571 rfl rfl (h1 c0)
