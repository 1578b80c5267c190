section AJS
variable {D : va_G} {kA : Nat → ClassId} {bs aS b : Nat} {p : Program} {l : Launch} {e : Env} {R : Room} {s : State} {m : MethodId} {args : Array Value} {below : List Frame} {meth : Method} {c : Code} {Q : State → Prop} {nL oc mc ms : Nat} {cc : ByteArray}
theorem aj_S1 (F : aj_fx D kA bs aS p s m args c nL oc cc) : aj_C1 oc cc (aj_jm D kA bs aS b p l e R s m args below meth c Q nL mc ms) := by
  obtain ⟨hx, hb, hml, hown, hts, hkw, hbs⟩ := F
  refine ⟨?_, ?_, ?_, ?_, ?_, ?_, ?_, ?_, ?_, ?_, ?_, ?_, ?_, ?_, ?_, ?_⟩
  · -- iconst
    intro pc L st Z I G C n v p0 p1 p2 g1 g2 ls H locs hl hi
    exact lv_iconst hx hb p0 p1 (p2 g1 g2 ls H locs hl hi)
  · -- bipush
    intro pc L st Z I G C n v p0 p1 p2 g1 g2 ls H locs hl hi
    exact lv_bipush hx hb p0 p1 (p2 g1 g2 ls H locs hl hi)
  · -- sipush
    intro pc L st Z I G C n v p0 p1 p2 g1 g2 ls H locs hl hi
    exact lv_sipush hx hb p0 p1 (p2 g1 g2 ls H locs hl hi)
  · -- lconst
    intro pc L st Z I G C n v p0 p1 p2 g1 g2 ls H locs hl hi
    exact lv_lconst hx hb p0 p1 (p2 g1 g2 ls H locs hl hi)
  · -- ldc
    intro pc L st Z I G C i v p0 p1 p2 g1 g2 ls H locs hl hi
    exact lv_ldc hx hb hown (hts _ (aj_oklc _ p0)) p1 (p2 g1 g2 ls H locs hl hi)
  · -- ldcw
    intro pc L st Z I G C i v p0 p1 p2 g1 g2 ls H locs hl hi
    exact lv_ldcw hx hb hown (hts _ (aj_oklc _ p0)) p1 (p2 g1 g2 ls H locs hl hi)
  · -- ldc2
    intro pc L st Z I G C i v p0 p1 p2 g1 g2 ls H locs hl hi
    exact lv_ldc2 hx hb hown (hts _ (aj_okll _ p0)) p1 (p2 g1 g2 ls H locs hl hi)
  · -- null
    intro pc L st Z I G C  p0 p1 g1 g2 ls H locs hl hi
    exact lv_null hx hb p0 (p1 g1 g2 ls H locs hl hi)
  · -- iload_n
    intro pc L st Z I G C i x p0 p1 p2 g1 g2 ls H locs hl hi
    exact lv_iload_n hx hb p0 rfl (hl.2.2.2 _ _ p1) (p2 g1 g2 ls H locs hl hi)
  · -- iload
    intro pc L st Z I G C i x p0 p1 p2 g1 g2 ls H locs hl hi
    exact lv_iload hx hb p0 (hl.2.2.2 _ _ p1) (p2 g1 g2 ls H locs hl hi)
  · -- lload_n
    intro pc L st Z I G C i x p0 p1 p2 g1 g2 ls H locs hl hi
    exact lv_lload_n hx hb p0 rfl (hl.2.2.2 _ _ p1) (p2 g1 g2 ls H locs hl hi)
  · -- lload
    intro pc L st Z I G C i x p0 p1 p2 g1 g2 ls H locs hl hi
    exact lv_lload hx hb p0 (hl.2.2.2 _ _ p1) (p2 g1 g2 ls H locs hl hi)
  · -- aload_n
    intro pc L st Z I G C i x p0 p1 p2 g1 g2 ls H locs hl hi
    exact lv_aload_n hx hb p0 rfl (hl.2.2.2 _ _ p1) (p2 g1 g2 ls H locs hl hi)
  · -- aload
    intro pc L st Z I G C i x p0 p1 p2 g1 g2 ls H locs hl hi
    exact lv_aload hx hb p0 (hl.2.2.2 _ _ p1) (p2 g1 g2 ls H locs hl hi)
  · -- aload_nN
    intro pc L st Z I G C i p0 p1 p2 g1 g2 ls H locs hl hi
    exact lv_aload_nN hx hb p0 rfl (hl.2.2.2 _ _ p1) (p2 g1 g2 ls H locs hl hi)
  · -- aloadN
    intro pc L st Z I G C i p0 p1 p2 g1 g2 ls H locs hl hi
    exact lv_aloadN hx hb p0 (hl.2.2.2 _ _ p1) (p2 g1 g2 ls H locs hl hi)
theorem aj_S2 (F : aj_fx D kA bs aS p s m args c nL oc cc) : aj_C2 cc (aj_jm D kA bs aS b p l e R s m args below meth c Q nL mc ms) := by
  obtain ⟨hx, hb, hml, hown, hts, hkw, hbs⟩ := F
  refine ⟨?_, ?_, ?_, ?_, ?_, ?_, ?_, ?_, ?_⟩
  · -- istore_n
    intro pc L st Z I G C i x p0 p1 p2 g1 g2 ls H locs hl hi
    exact lv_istore_n hx hb p0 rfl hl.has (by rw [← hl.2.2.1]; exact p1) rfl (fun ls1 h1 => p2 g1 g2 ls1 H locs (hl.st1 h1) hi)
  · -- istore
    intro pc L st Z I G C i x p0 p1 p2 g1 g2 ls H locs hl hi
    exact lv_istore hx hb p0 hl.has (by rw [← hl.2.2.1]; exact p1) rfl (fun ls1 h1 => p2 g1 g2 ls1 H locs (hl.st1 h1) hi)
  · -- astore_n
    intro pc L st Z I G C i x p0 p1 p2 g1 g2 ls H locs hl hi
    exact lv_astore_n hx hb p0 rfl hl.has (by rw [← hl.2.2.1]; exact p1) rfl (fun ls1 h1 => p2 g1 g2 ls1 H locs (hl.st1 h1) hi)
  · -- astore
    intro pc L st Z I G C i x p0 p1 p2 g1 g2 ls H locs hl hi
    exact lv_astore hx hb p0 hl.has (by rw [← hl.2.2.1]; exact p1) rfl (fun ls1 h1 => p2 g1 g2 ls1 H locs (hl.st1 h1) hi)
  · -- astore_nN
    intro pc L st Z I G C i p0 p1 p2 g1 g2 ls H locs hl hi
    exact lv_astore_nN hx hb p0 rfl hl.has (by rw [← hl.2.2.1]; exact p1) rfl (fun ls1 h1 => p2 g1 g2 ls1 H locs (hl.st1 h1) hi)
  · -- astoreN
    intro pc L st Z I G C i p0 p1 p2 g1 g2 ls H locs hl hi
    exact lv_astoreN hx hb p0 hl.has (by rw [← hl.2.2.1]; exact p1) rfl (fun ls1 h1 => p2 g1 g2 ls1 H locs (hl.st1 h1) hi)
  · -- lstore_n
    intro pc L st Z I G C i x p0 p1 p2 g1 g2 ls H locs hl hi
    exact lv_lstore_n hx hb p0 rfl hl.has (by rw [← hl.2.2.1]; exact p1) rfl (fun ls1 h1 => p2 g1 g2 ls1 H locs (hl.st2 h1) hi)
  · -- lstore
    intro pc L st Z I G C i x p0 p1 p2 g1 g2 ls H locs hl hi
    exact lv_lstore hx hb p0 hl.has (by rw [← hl.2.2.1]; exact p1) rfl (fun ls1 h1 => p2 g1 g2 ls1 H locs (hl.st2 h1) hi)
  · -- iinc
    intro pc L st Z I G C i n x v p0 p1 p2 p3 g1 g2 ls H locs hl hi
    obtain ⟨k, hk⟩ := List.getElem?_of_mem (aj_as_mem.mpr ⟨Value.int x, p1, rfl⟩)
    subst p2
    exact lv_iinc (v := x + Int32.ofInt n) hx hb p0 hl.has hk rfl (by rw [← hl.2.2.1]; exact (List.getElem?_eq_some_iff.mp p1).1) rfl (fun ls1 h1 => p3 g1 g2 ls1 H locs (hl.st1 h1) hi)
theorem aj_S3 (F : aj_fx D kA bs aS p s m args c nL oc cc) : aj_C3 cc (aj_jm D kA bs aS b p l e R s m args below meth c Q nL mc ms) := by
  obtain ⟨hx, hb, hml, hown, hts, hkw, hbs⟩ := F
  refine ⟨?_, ?_, ?_, ?_, ?_, ?_, ?_, ?_, ?_, ?_, ?_, ?_, ?_, ?_, ?_, ?_, ?_, ?_, ?_, ?_, ?_, ?_, ?_⟩
  · -- iadd
    intro pc L st Z I G C x y p0 p1 g1 g2 ls H locs hl hi
    exact lv_iadd hx hb p0 (p1 g1 g2 ls H locs hl hi)
  · -- isub
    intro pc L st Z I G C x y p0 p1 g1 g2 ls H locs hl hi
    exact lv_isub hx hb p0 (p1 g1 g2 ls H locs hl hi)
  · -- imul
    intro pc L st Z I G C x y p0 p1 g1 g2 ls H locs hl hi
    exact lv_imul hx hb p0 (p1 g1 g2 ls H locs hl hi)
  · -- iand
    intro pc L st Z I G C x y p0 p1 g1 g2 ls H locs hl hi
    exact lv_iand hx hb p0 (p1 g1 g2 ls H locs hl hi)
  · -- ior
    intro pc L st Z I G C x y p0 p1 g1 g2 ls H locs hl hi
    exact lv_ior hx hb p0 (p1 g1 g2 ls H locs hl hi)
  · -- ixor
    intro pc L st Z I G C x y p0 p1 g1 g2 ls H locs hl hi
    exact lv_ixor hx hb p0 (p1 g1 g2 ls H locs hl hi)
  · -- ishl
    intro pc L st Z I G C x y p0 p1 g1 g2 ls H locs hl hi
    exact lv_ishl hx hb p0 (p1 g1 g2 ls H locs hl hi)
  · -- ishr
    intro pc L st Z I G C x y p0 p1 g1 g2 ls H locs hl hi
    exact lv_ishr hx hb p0 (p1 g1 g2 ls H locs hl hi)
  · -- idiv
    intro pc L st Z I G C x y p0 p1 p2 g1 g2 ls H locs hl hi
    exact lv_idiv hx hb p0 p1 (p2 g1 g2 ls H locs hl hi)
  · -- irem
    intro pc L st Z I G C x y p0 p1 p2 g1 g2 ls H locs hl hi
    exact lv_irem hx hb p0 p1 (p2 g1 g2 ls H locs hl hi)
  · -- ineg
    intro pc L st Z I G C x p0 p1 g1 g2 ls H locs hl hi
    exact lv_ineg hx hb p0 (p1 g1 g2 ls H locs hl hi)
  · -- ladd
    intro pc L st Z I G C x y p0 p1 g1 g2 ls H locs hl hi
    exact lv_ladd hx hb p0 (p1 g1 g2 ls H locs hl hi)
  · -- lsub
    intro pc L st Z I G C x y p0 p1 g1 g2 ls H locs hl hi
    exact lv_lsub hx hb p0 (p1 g1 g2 ls H locs hl hi)
  · -- lmul
    intro pc L st Z I G C x y p0 p1 g1 g2 ls H locs hl hi
    exact lv_lmul hx hb p0 (p1 g1 g2 ls H locs hl hi)
  · -- land
    intro pc L st Z I G C x y p0 p1 g1 g2 ls H locs hl hi
    exact lv_land hx hb p0 (p1 g1 g2 ls H locs hl hi)
  · -- lor
    intro pc L st Z I G C x y p0 p1 g1 g2 ls H locs hl hi
    exact lv_lor hx hb p0 (p1 g1 g2 ls H locs hl hi)
  · -- i2l
    intro pc L st Z I G C x p0 p1 g1 g2 ls H locs hl hi
    exact lv_i2l hx hb p0 rfl (p1 g1 g2 ls H locs hl hi)
  · -- l2i
    intro pc L st Z I G C x p0 p1 g1 g2 ls H locs hl hi
    exact lv_l2i hx hb p0 rfl (p1 g1 g2 ls H locs hl hi)
  · -- i2b
    intro pc L st Z I G C x p0 p1 g1 g2 ls H locs hl hi
    exact lv_i2b hx hb p0 rfl (p1 g1 g2 ls H locs hl hi)
  · -- lushr
    intro pc L st Z I G C x y p0 p1 g1 g2 ls H locs hl hi
    exact lv_lushr hx hb p0 rfl (p1 g1 g2 ls H locs hl hi)
  · -- lshl
    intro pc L st Z I G C x y p0 p1 g1 g2 ls H locs hl hi
    exact lv_lshl hx hb p0 rfl (p1 g1 g2 ls H locs hl hi)
  · -- lshr
    intro pc L st Z I G C x y p0 p1 g1 g2 ls H locs hl hi
    exact lv_lshr hx hb p0 rfl (p1 g1 g2 ls H locs hl hi)
  · -- lcmp
    intro pc L st Z I G C x y p0 p1 g1 g2 ls H locs hl hi
    exact W.lcmp hx hb p0 (p1 g1 g2 ls H locs hl hi)
theorem aj_S4 (F : aj_fx D kA bs aS p s m args c nL oc cc) : aj_C4 cc (aj_jm D kA bs aS b p l e R s m args below meth c Q nL mc ms) := by
  obtain ⟨hx, hb, hml, hown, hts, hkw, hbs⟩ := F
  refine ⟨?_, ?_, ?_, ?_, ?_, ?_, ?_, ?_, ?_, ?_, ?_, ?_, ?_, ?_, ?_, ?_, ?_, ?_, ?_, ?_, ?_, ?_, ?_, ?_, ?_, ?_⟩
  · -- dup
    intro pc L st Z I G C v p0 p1 p2 g1 g2 ls H locs hl hi
    exact lv_dup hx hb p0 (by rw [aj_cv_cat]; exact p1) (p2 g1 g2 ls H locs hl hi)
  · -- pop
    intro pc L st Z I G C v p0 p1 p2 g1 g2 ls H locs hl hi
    exact lv_pop hx hb p0 (by rw [aj_cv_cat]; exact p1) (p2 g1 g2 ls H locs hl hi)
  · -- pop2
    intro pc L st Z I G C v p0 p1 p2 g1 g2 ls H locs hl hi
    exact lv_pop2_2 hx hb p0 (by rw [aj_cv_cat]; exact p1) (p2 g1 g2 ls H locs hl hi)
  · -- dup_x1
    intro pc L st Z I G C v w p0 p1 p2 p3 g1 g2 ls H locs hl hi
    exact lv_dup_x1 hx hb p0 (by rw [aj_cv_cat]; exact p1) (by rw [aj_cv_cat]; exact p2) (p3 g1 g2 ls H locs hl hi)
  · -- dup2
    intro pc L st Z I G C v w p0 p1 p2 p3 g1 g2 ls H locs hl hi
    exact lv_dup2_11 hx hb p0 (by rw [aj_cv_cat]; exact p1) (by rw [aj_cv_cat]; exact p2) (p3 g1 g2 ls H locs hl hi)
  · -- dup2_2
    intro pc L st Z I G C v p0 p1 p2 g1 g2 ls H locs hl hi
    exact lv_dup2_2 hx hb p0 (by rw [aj_cv_cat]; exact p1) (p2 g1 g2 ls H locs hl hi)
  · -- if_eq
    intro pc L st Z I G C x off tgt p0 p1 p2 p3 g1 g2 ls H locs hl hi
    exact lv_if_eq hx hb p0 p1 (fun q => p2 q g1 g2 ls H locs hl hi) (fun q => p3 q g1 g2 ls H locs hl hi)
  · -- if_ne
    intro pc L st Z I G C x off tgt p0 p1 p2 p3 g1 g2 ls H locs hl hi
    exact lv_if_ne hx hb p0 p1 (fun q => p2 q g1 g2 ls H locs hl hi) (fun q => p3 q g1 g2 ls H locs hl hi)
  · -- if_lt
    intro pc L st Z I G C x off tgt p0 p1 p2 p3 g1 g2 ls H locs hl hi
    exact lv_if_lt hx hb p0 p1 (fun q => p2 q g1 g2 ls H locs hl hi) (fun q => p3 q g1 g2 ls H locs hl hi)
  · -- if_ge
    intro pc L st Z I G C x off tgt p0 p1 p2 p3 g1 g2 ls H locs hl hi
    exact lv_if_ge hx hb p0 p1 (fun q => p2 q g1 g2 ls H locs hl hi) (fun q => p3 q g1 g2 ls H locs hl hi)
  · -- if_gt
    intro pc L st Z I G C x off tgt p0 p1 p2 p3 g1 g2 ls H locs hl hi
    exact lv_if_gt hx hb p0 p1 (fun q => p2 q g1 g2 ls H locs hl hi) (fun q => p3 q g1 g2 ls H locs hl hi)
  · -- if_le
    intro pc L st Z I G C x off tgt p0 p1 p2 p3 g1 g2 ls H locs hl hi
    exact lv_if_le hx hb p0 p1 (fun q => p2 q g1 g2 ls H locs hl hi) (fun q => p3 q g1 g2 ls H locs hl hi)
  · -- icmp_eq
    intro pc L st Z I G C x y off tgt p0 p1 p2 p3 g1 g2 ls H locs hl hi
    exact lv_icmp_eq hx hb p0 p1 (fun q => p2 q g1 g2 ls H locs hl hi) (fun q => p3 q g1 g2 ls H locs hl hi)
  · -- icmp_ne
    intro pc L st Z I G C x y off tgt p0 p1 p2 p3 g1 g2 ls H locs hl hi
    exact lv_icmp_ne hx hb p0 p1 (fun q => p2 q g1 g2 ls H locs hl hi) (fun q => p3 q g1 g2 ls H locs hl hi)
  · -- icmp_lt
    intro pc L st Z I G C x y off tgt p0 p1 p2 p3 g1 g2 ls H locs hl hi
    exact lv_icmp_lt hx hb p0 p1 (fun q => p2 q g1 g2 ls H locs hl hi) (fun q => p3 q g1 g2 ls H locs hl hi)
  · -- icmp_ge
    intro pc L st Z I G C x y off tgt p0 p1 p2 p3 g1 g2 ls H locs hl hi
    exact lv_icmp_ge hx hb p0 p1 (fun q => p2 q g1 g2 ls H locs hl hi) (fun q => p3 q g1 g2 ls H locs hl hi)
  · -- icmp_gt
    intro pc L st Z I G C x y off tgt p0 p1 p2 p3 g1 g2 ls H locs hl hi
    exact lv_icmp_gt hx hb p0 p1 (fun q => p2 q g1 g2 ls H locs hl hi) (fun q => p3 q g1 g2 ls H locs hl hi)
  · -- icmp_le
    intro pc L st Z I G C x y off tgt p0 p1 p2 p3 g1 g2 ls H locs hl hi
    exact lv_icmp_le hx hb p0 p1 (fun q => p2 q g1 g2 ls H locs hl hi) (fun q => p3 q g1 g2 ls H locs hl hi)
  · -- goto
    intro pc L st Z I G C off tgt p0 p1 p2 g1 g2 ls H locs hl hi
    exact lv_goto hx hb p0 p1 (p2 g1 g2 ls H locs hl hi)
  · -- ifnonnull
    intro pc L st Z I G C o off tgt p0 p1 p2 g1 g2 ls H locs hl hi
    exact lv_ifnonnull hx hb p0 p1 (p2 g1 g2 ls H locs hl hi)
  · -- ifnonnullN
    intro pc L st Z I G C off p0 p1 g1 g2 ls H locs hl hi
    exact lv_ifnonnullN hx hb p0 (p1 g1 g2 ls H locs hl hi)
  · -- ifnull
    intro pc L st Z I G C o off p0 p1 g1 g2 ls H locs hl hi
    exact lv_ifnull hx hb p0 (p1 g1 g2 ls H locs hl hi)
  · -- ifnullN
    intro pc L st Z I G C off tgt p0 p1 p2 g1 g2 ls H locs hl hi
    exact lv_ifnullN hx hb p0 p1 (p2 g1 g2 ls H locs hl hi)
  · -- tableOut
    intro pc L st Z I G C df lo hi offs len x tgt p0 p1 p2 p3 g1 g2 ls H locs hl hi
    exact lv_tableOut hx hb p0 p1 p2 (p3 g1 g2 ls H locs hl hi)
  · -- tableIn
    intro pc L st Z I G C df lo hi offs len x off tgt p0 p1 p2 p3 p4 p5 g1 g2 ls H locs hl hi
    exact lv_tableIn hx hb p0 p1 p2 p3 p4 (p5 g1 g2 ls H locs hl hi)
  · -- lookup
    intro pc L st Z I G C df ps len x off tgt p0 p1 p2 p3 p4 g1 g2 ls H locs hl hi
    exact lv_lookup hx hb p0 p1 p2 p3 (p4 g1 g2 ls H locs hl hi)
end AJS
