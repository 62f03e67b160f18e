def g_iushr (x z : Int32) : Int32 := ((x.toUInt32 >>> (z.toUInt32 &&& Int32.toUInt32 31)).toInt32)
def g_lushr (x : Int64) (z : Int32) : Int64 := (x.toUInt64 >>> (z.toInt64.toUInt64 &&& Int64.toUInt64 63)).toInt64
/-! The rules of G: an instruction, a row. -/
section GR1
variable {Γ : GX} {y : MethodName} {cc : ByteArray} {nL : Nat} {rt : Option FieldType} {rb : GR} {pc : Nat} {lv lv' : List (Option Value)} {st : List Value} {h : PH} {cs : Nat × Nat} {Q : Option Value → PH → Prop} {Ω : List Frame → Array Value → State → State → Prop}
theorem G_iconst {n : Int} {v : Int32} (hd : decode cc pc = .ok (.iconst n, 1)) (hv : Int32.ofInt n = v) (k : GZ Γ Ω y cc nL rt rb (pc + 1) lv (.int v :: st) h cs) : GZ Γ Ω y cc nL rt rb pc lv st h cs :=
  fun p e s m args below meth c C ls H locs hl hH hS => lv_iconst C.1 C.2.1 hd hv (k p e s m args below meth c C ls H locs hl hH hS)
theorem G_bipush {n : Int} {v : Int32} (hd : decode cc pc = .ok (.bipush n, 2)) (hv : (Int8.ofInt n).toInt32 = v) (k : GZ Γ Ω y cc nL rt rb (pc + 2) lv (.int v :: st) h cs) : GZ Γ Ω y cc nL rt rb pc lv st h cs :=
  fun p e s m args below meth c C ls H locs hl hH hS => lv_bipush C.1 C.2.1 hd hv (k p e s m args below meth c C ls H locs hl hH hS)
theorem G_sipush {n : Int} {v : Int32} (hd : decode cc pc = .ok (.sipush n, 3)) (hv : (Int16.ofInt n).toInt32 = v) (k : GZ Γ Ω y cc nL rt rb (pc + 3) lv (.int v :: st) h cs) : GZ Γ Ω y cc nL rt rb pc lv st h cs :=
  fun p e s m args below meth c C ls H locs hl hH hS => lv_sipush C.1 C.2.1 hd hv (k p e s m args below meth c C ls H locs hl hH hS)
theorem G_lconst {n : Fin 2} {v : Int64} (hd : decode cc pc = .ok (.lconst n, 1)) (hv : Int64.ofNat (n : Nat) = v) (k : GZ Γ Ω y cc nL rt rb (pc + 1) lv (.long v :: st) h cs) : GZ Γ Ω y cc nL rt rb pc lv st h cs :=
  fun p e s m args below meth c C ls H locs hl hH hS => lv_lconst C.1 C.2.1 hd hv (k p e s m args below meth c C ls H locs hl hH hS)
theorem G_null  (hd : decode cc pc = .ok (.aconst_null, 1)) (k : GZ Γ Ω y cc nL rt rb (pc + 1) lv (.null :: st) h cs) : GZ Γ Ω y cc nL rt rb pc lv st h cs :=
  fun p e s m args below meth c C ls H locs hl hH hS => lv_null C.1 C.2.1 hd (k p e s m args below meth c C ls H locs hl hH hS)
theorem G_ldc {idx : Nat} {v : Int32} (hd : decode cc pc = .ok (.ldc idx, 2)) (hc : Cond.constant y.cls idx v ∈ g_tb) (k : GZ Γ Ω y cc nL rt rb (pc + 2) lv (.int v :: st) h cs) : GZ Γ Ω y cc nL rt rb pc lv st h cs :=
  fun p e s m args below meth c C ls H locs hl hH hS => lv_ldc C.1 C.2.1 C.2.2.2.2.2.1 (C.2.2.2.2.1 _ hc) hd (k p e s m args below meth c C ls H locs hl hH hS)
theorem G_ldcw {idx : Nat} {v : Int32} (hd : decode cc pc = .ok (.ldc_w idx, 3)) (hc : Cond.constant y.cls idx v ∈ g_tb) (k : GZ Γ Ω y cc nL rt rb (pc + 3) lv (.int v :: st) h cs) : GZ Γ Ω y cc nL rt rb pc lv st h cs :=
  fun p e s m args below meth c C ls H locs hl hH hS => lv_ldcw C.1 C.2.1 C.2.2.2.2.2.1 (C.2.2.2.2.1 _ hc) hd (k p e s m args below meth c C ls H locs hl hH hS)
theorem G_ldc2 {idx : Nat} {v : Int64} (hd : decode cc pc = .ok (.ldc2_w idx, 3)) (hc : Cond.constantLong y.cls idx v ∈ g_tb) (k : GZ Γ Ω y cc nL rt rb (pc + 3) lv (.long v :: st) h cs) : GZ Γ Ω y cc nL rt rb pc lv st h cs :=
  fun p e s m args below meth c C ls H locs hl hH hS => lv_ldc2 C.1 C.2.1 C.2.2.2.2.2.1 (C.2.2.2.2.1 _ hc) hd (k p e s m args below meth c C ls H locs hl hH hS)
theorem G_iload {i : Nat} {x : Int32} (hd : decode cc pc = .ok (.iload i, 2)) (hv : lv[i]? = some (some (.int x))) (k : GZ Γ Ω y cc nL rt rb (pc + 2) lv (.int x :: st) h cs) : GZ Γ Ω y cc nL rt rb pc lv st h cs :=
  fun p e s m args below meth c C ls H locs hl hH hS => lv_iload C.1 C.2.1 hd (hl.2.2 i _ hv) (k p e s m args below meth c C ls H locs hl hH hS)
theorem G_iload_n {j : Fin 4} {x : Int32} (hd : decode cc pc = .ok (.iload_n j, 1)) (hv : lv[(j : Nat)]? = some (some (.int x))) (k : GZ Γ Ω y cc nL rt rb (pc + 1) lv (.int x :: st) h cs) : GZ Γ Ω y cc nL rt rb pc lv st h cs :=
  fun p e s m args below meth c C ls H locs hl hH hS => lv_iload_n C.1 C.2.1 hd rfl (hl.2.2 _ _ hv) (k p e s m args below meth c C ls H locs hl hH hS)
theorem G_lload {i : Nat} {x : Int64} (hd : decode cc pc = .ok (.lload i, 2)) (hv : lv[i]? = some (some (.long x))) (k : GZ Γ Ω y cc nL rt rb (pc + 2) lv (.long x :: st) h cs) : GZ Γ Ω y cc nL rt rb pc lv st h cs :=
  fun p e s m args below meth c C ls H locs hl hH hS => lv_lload C.1 C.2.1 hd (hl.2.2 i _ hv) (k p e s m args below meth c C ls H locs hl hH hS)
theorem G_lload_n {j : Fin 4} {x : Int64} (hd : decode cc pc = .ok (.lload_n j, 1)) (hv : lv[(j : Nat)]? = some (some (.long x))) (k : GZ Γ Ω y cc nL rt rb (pc + 1) lv (.long x :: st) h cs) : GZ Γ Ω y cc nL rt rb pc lv st h cs :=
  fun p e s m args below meth c C ls H locs hl hH hS => lv_lload_n C.1 C.2.1 hd rfl (hl.2.2 _ _ hv) (k p e s m args below meth c C ls H locs hl hH hS)
theorem G_aload {i : Nat} {x : Nat} (hd : decode cc pc = .ok (.aload i, 2)) (hv : lv[i]? = some (some (.ref x))) (k : GZ Γ Ω y cc nL rt rb (pc + 2) lv (.ref x :: st) h cs) : GZ Γ Ω y cc nL rt rb pc lv st h cs :=
  fun p e s m args below meth c C ls H locs hl hH hS => lv_aload C.1 C.2.1 hd (hl.2.2 i _ hv) (k p e s m args below meth c C ls H locs hl hH hS)
theorem G_aload_n {j : Fin 4} {x : Nat} (hd : decode cc pc = .ok (.aload_n j, 1)) (hv : lv[(j : Nat)]? = some (some (.ref x))) (k : GZ Γ Ω y cc nL rt rb (pc + 1) lv (.ref x :: st) h cs) : GZ Γ Ω y cc nL rt rb pc lv st h cs :=
  fun p e s m args below meth c C ls H locs hl hH hS => lv_aload_n C.1 C.2.1 hd rfl (hl.2.2 _ _ hv) (k p e s m args below meth c C ls H locs hl hH hS)
theorem G_aloadq {i : Nat} {x : Option Nat} (hd : decode cc pc = .ok (.aload i, 2)) (hv : lv[i]? = some (some (va_rf x))) (k : GZ Γ Ω y cc nL rt rb (pc + 2) lv (va_rf x :: st) h cs) : GZ Γ Ω y cc nL rt rb pc lv st h cs := by
  intro p e s m args below meth c C ls H locs hl hH hS
  cases x with
  | none => exact lv_aloadN C.1 C.2.1 hd (hl.2.2 i _ hv) (k p e s m args below meth c C ls H locs hl hH hS)
  | some x => exact lv_aload C.1 C.2.1 hd (hl.2.2 i _ hv) (k p e s m args below meth c C ls H locs hl hH hS)
theorem G_aload_nq {j : Fin 4} {x : Option Nat} (hd : decode cc pc = .ok (.aload_n j, 1)) (hv : lv[(j : Nat)]? = some (some (va_rf x))) (k : GZ Γ Ω y cc nL rt rb (pc + 1) lv (va_rf x :: st) h cs) : GZ Γ Ω y cc nL rt rb pc lv st h cs := by
  intro p e s m args below meth c C ls H locs hl hH hS
  cases x with
  | none => exact lv_aload_nN C.1 C.2.1 hd rfl (hl.2.2 _ _ hv) (k p e s m args below meth c C ls H locs hl hH hS)
  | some x => exact lv_aload_n C.1 C.2.1 hd rfl (hl.2.2 _ _ hv) (k p e s m args below meth c C ls H locs hl hH hS)
theorem G_istore {i : Nat} {x : Int32} (hd : decode cc pc = .ok (.istore i, 2)) (hn : i < nL) (hv : g_st1 lv i (.int x) = lv') (k : GZ Γ Ω y cc nL rt rb (pc + 2) lv' st h cs) : GZ Γ Ω y cc nL rt rb pc lv (.int x :: st) h cs :=
  fun p e s m args below meth c C ls H locs hl hH hS => lv_istore C.1 C.2.1 hd hl.has hn rfl (fun ls' hl' => k p e s m args below meth c C ls' H locs (g_lv.st1 hl' hv) hH hS)
theorem G_istore_n {j : Fin 4} {x : Int32} (hd : decode cc pc = .ok (.istore_n j, 1)) (hn : (j : Nat) < nL) (hv : g_st1 lv (j : Nat) (.int x) = lv') (k : GZ Γ Ω y cc nL rt rb (pc + 1) lv' st h cs) : GZ Γ Ω y cc nL rt rb pc lv (.int x :: st) h cs :=
  fun p e s m args below meth c C ls H locs hl hH hS => lv_istore_n C.1 C.2.1 hd rfl hl.has hn rfl (fun ls' hl' => k p e s m args below meth c C ls' H locs (g_lv.st1 hl' hv) hH hS)
theorem G_lstore {i : Nat} {x : Int64} (hd : decode cc pc = .ok (.lstore i, 2)) (hn : i + 1 < nL) (hv : g_st2 lv i (.long x) = lv') (k : GZ Γ Ω y cc nL rt rb (pc + 2) lv' st h cs) : GZ Γ Ω y cc nL rt rb pc lv (.long x :: st) h cs :=
  fun p e s m args below meth c C ls H locs hl hH hS => lv_lstore C.1 C.2.1 hd hl.has hn rfl (fun ls' hl' => k p e s m args below meth c C ls' H locs (g_lv.st2 hl' hv) hH hS)
theorem G_lstore_n {j : Fin 4} {x : Int64} (hd : decode cc pc = .ok (.lstore_n j, 1)) (hn : (j : Nat) + 1 < nL) (hv : g_st2 lv (j : Nat) (.long x) = lv') (k : GZ Γ Ω y cc nL rt rb (pc + 1) lv' st h cs) : GZ Γ Ω y cc nL rt rb pc lv (.long x :: st) h cs :=
  fun p e s m args below meth c C ls H locs hl hH hS => lv_lstore_n C.1 C.2.1 hd rfl hl.has hn rfl (fun ls' hl' => k p e s m args below meth c C ls' H locs (g_lv.st2 hl' hv) hH hS)
theorem G_astore {i : Nat} {x : Nat} (hd : decode cc pc = .ok (.astore i, 2)) (hn : i < nL) (hv : g_st1 lv i (.ref x) = lv') (k : GZ Γ Ω y cc nL rt rb (pc + 2) lv' st h cs) : GZ Γ Ω y cc nL rt rb pc lv (.ref x :: st) h cs :=
  fun p e s m args below meth c C ls H locs hl hH hS => lv_astore C.1 C.2.1 hd hl.has hn rfl (fun ls' hl' => k p e s m args below meth c C ls' H locs (g_lv.st1 hl' hv) hH hS)
theorem G_astore_n {j : Fin 4} {x : Nat} (hd : decode cc pc = .ok (.astore_n j, 1)) (hn : (j : Nat) < nL) (hv : g_st1 lv (j : Nat) (.ref x) = lv') (k : GZ Γ Ω y cc nL rt rb (pc + 1) lv' st h cs) : GZ Γ Ω y cc nL rt rb pc lv (.ref x :: st) h cs :=
  fun p e s m args below meth c C ls H locs hl hH hS => lv_astore_n C.1 C.2.1 hd rfl hl.has hn rfl (fun ls' hl' => k p e s m args below meth c C ls' H locs (g_lv.st1 hl' hv) hH hS)
theorem G_iinc {i : Nat} {n : Int} {x v : Int32} (hd : decode cc pc = .ok (.iinc i n, 3)) (hx : lv[i]? = some (some (.int x))) (hw : x + Int32.ofInt n = v) (hn : i < nL) (hv : g_st1 lv i (.int v) = lv') (k : GZ Γ Ω y cc nL rt rb (pc + 3) lv' st h cs) : GZ Γ Ω y cc nL rt rb pc lv st h cs := by
  intro p e s m args below meth c C ls H locs hl hH hS
  obtain ⟨j, hj⟩ := List.getElem?_of_mem (g_prs_mem.mpr hx)
  exact lv_iinc C.1 C.2.1 hd hl.has hj hw hn rfl (fun ls' hl' => k p e s m args below meth c C ls' H locs (g_lv.st1 hl' hv) hH hS)
theorem G_iadd {x z : Int32} (hd : decode cc pc = .ok (.iadd, 1)) (k : GZ Γ Ω y cc nL rt rb (pc + 1) lv (.int (x + z) :: st) h cs) : GZ Γ Ω y cc nL rt rb pc lv (.int z :: .int x :: st) h cs :=
  fun p e s m args below meth c C ls H locs hl hH hS => lv_iadd C.1 C.2.1 hd (k p e s m args below meth c C ls H locs hl hH hS)
theorem G_isub {x z : Int32} (hd : decode cc pc = .ok (.isub, 1)) (k : GZ Γ Ω y cc nL rt rb (pc + 1) lv (.int (x - z) :: st) h cs) : GZ Γ Ω y cc nL rt rb pc lv (.int z :: .int x :: st) h cs :=
  fun p e s m args below meth c C ls H locs hl hH hS => lv_isub C.1 C.2.1 hd (k p e s m args below meth c C ls H locs hl hH hS)
theorem G_imul {x z : Int32} (hd : decode cc pc = .ok (.imul, 1)) (k : GZ Γ Ω y cc nL rt rb (pc + 1) lv (.int (x * z) :: st) h cs) : GZ Γ Ω y cc nL rt rb pc lv (.int z :: .int x :: st) h cs :=
  fun p e s m args below meth c C ls H locs hl hH hS => lv_imul C.1 C.2.1 hd (k p e s m args below meth c C ls H locs hl hH hS)
theorem G_iand {x z : Int32} (hd : decode cc pc = .ok (.iand, 1)) (k : GZ Γ Ω y cc nL rt rb (pc + 1) lv (.int (x &&& z) :: st) h cs) : GZ Γ Ω y cc nL rt rb pc lv (.int z :: .int x :: st) h cs :=
  fun p e s m args below meth c C ls H locs hl hH hS => lv_iand C.1 C.2.1 hd (k p e s m args below meth c C ls H locs hl hH hS)
theorem G_ior {x z : Int32} (hd : decode cc pc = .ok (.ior, 1)) (k : GZ Γ Ω y cc nL rt rb (pc + 1) lv (.int (x ||| z) :: st) h cs) : GZ Γ Ω y cc nL rt rb pc lv (.int z :: .int x :: st) h cs :=
  fun p e s m args below meth c C ls H locs hl hH hS => lv_ior C.1 C.2.1 hd (k p e s m args below meth c C ls H locs hl hH hS)
theorem G_ixor {x z : Int32} (hd : decode cc pc = .ok (.ixor, 1)) (k : GZ Γ Ω y cc nL rt rb (pc + 1) lv (.int (x ^^^ z) :: st) h cs) : GZ Γ Ω y cc nL rt rb pc lv (.int z :: .int x :: st) h cs :=
  fun p e s m args below meth c C ls H locs hl hH hS => lv_ixor C.1 C.2.1 hd (k p e s m args below meth c C ls H locs hl hH hS)
theorem G_ishl {x z : Int32} (hd : decode cc pc = .ok (.ishl, 1)) (k : GZ Γ Ω y cc nL rt rb (pc + 1) lv (.int (x <<< (z &&& 31)) :: st) h cs) : GZ Γ Ω y cc nL rt rb pc lv (.int z :: .int x :: st) h cs :=
  fun p e s m args below meth c C ls H locs hl hH hS => lv_ishl C.1 C.2.1 hd (k p e s m args below meth c C ls H locs hl hH hS)
theorem G_ishr {x z : Int32} (hd : decode cc pc = .ok (.ishr, 1)) (k : GZ Γ Ω y cc nL rt rb (pc + 1) lv (.int (x >>> (z &&& 31)) :: st) h cs) : GZ Γ Ω y cc nL rt rb pc lv (.int z :: .int x :: st) h cs :=
  fun p e s m args below meth c C ls H locs hl hH hS => lv_ishr C.1 C.2.1 hd (k p e s m args below meth c C ls H locs hl hH hS)
theorem G_idiv {x z : Int32} (hd : decode cc pc = .ok (.idiv, 1)) (hne : ¬ z = 0) (k : GZ Γ Ω y cc nL rt rb (pc + 1) lv (.int (x / z) :: st) h cs) : GZ Γ Ω y cc nL rt rb pc lv (.int z :: .int x :: st) h cs :=
  fun p e s m args below meth c C ls H locs hl hH hS => lv_idiv C.1 C.2.1 hd hne (k p e s m args below meth c C ls H locs hl hH hS)
theorem G_irem {x z : Int32} (hd : decode cc pc = .ok (.irem, 1)) (hne : ¬ z = 0) (k : GZ Γ Ω y cc nL rt rb (pc + 1) lv (.int (x - x / z * z) :: st) h cs) : GZ Γ Ω y cc nL rt rb pc lv (.int z :: .int x :: st) h cs :=
  fun p e s m args below meth c C ls H locs hl hH hS => lv_irem C.1 C.2.1 hd hne (k p e s m args below meth c C ls H locs hl hH hS)
theorem G_ineg {x : Int32} (hd : decode cc pc = .ok (.ineg, 1)) (k : GZ Γ Ω y cc nL rt rb (pc + 1) lv (.int (-x) :: st) h cs) : GZ Γ Ω y cc nL rt rb pc lv (.int x :: st) h cs :=
  fun p e s m args below meth c C ls H locs hl hH hS => lv_ineg C.1 C.2.1 hd (k p e s m args below meth c C ls H locs hl hH hS)
theorem G_ladd {x z : Int64} (hd : decode cc pc = .ok (.ladd, 1)) (k : GZ Γ Ω y cc nL rt rb (pc + 1) lv (.long (x + z) :: st) h cs) : GZ Γ Ω y cc nL rt rb pc lv (.long z :: .long x :: st) h cs :=
  fun p e s m args below meth c C ls H locs hl hH hS => lv_ladd C.1 C.2.1 hd (k p e s m args below meth c C ls H locs hl hH hS)
theorem G_lsub {x z : Int64} (hd : decode cc pc = .ok (.lsub, 1)) (k : GZ Γ Ω y cc nL rt rb (pc + 1) lv (.long (x - z) :: st) h cs) : GZ Γ Ω y cc nL rt rb pc lv (.long z :: .long x :: st) h cs :=
  fun p e s m args below meth c C ls H locs hl hH hS => lv_lsub C.1 C.2.1 hd (k p e s m args below meth c C ls H locs hl hH hS)
theorem G_lmul {x z : Int64} (hd : decode cc pc = .ok (.lmul, 1)) (k : GZ Γ Ω y cc nL rt rb (pc + 1) lv (.long (x * z) :: st) h cs) : GZ Γ Ω y cc nL rt rb pc lv (.long z :: .long x :: st) h cs :=
  fun p e s m args below meth c C ls H locs hl hH hS => lv_lmul C.1 C.2.1 hd (k p e s m args below meth c C ls H locs hl hH hS)
theorem G_land {x z : Int64} (hd : decode cc pc = .ok (.land, 1)) (k : GZ Γ Ω y cc nL rt rb (pc + 1) lv (.long (x &&& z) :: st) h cs) : GZ Γ Ω y cc nL rt rb pc lv (.long z :: .long x :: st) h cs :=
  fun p e s m args below meth c C ls H locs hl hH hS => lv_land C.1 C.2.1 hd (k p e s m args below meth c C ls H locs hl hH hS)
theorem G_lor {x z : Int64} (hd : decode cc pc = .ok (.lor, 1)) (k : GZ Γ Ω y cc nL rt rb (pc + 1) lv (.long (x ||| z) :: st) h cs) : GZ Γ Ω y cc nL rt rb pc lv (.long z :: .long x :: st) h cs :=
  fun p e s m args below meth c C ls H locs hl hH hS => lv_lor C.1 C.2.1 hd (k p e s m args below meth c C ls H locs hl hH hS)
theorem G_ldiv {x z : Int64} (hd : decode cc pc = .ok (.ldiv, 1)) (hne : ¬ z = 0) (k : GZ Γ Ω y cc nL rt rb (pc + 1) lv (.long (x / z) :: st) h cs) : GZ Γ Ω y cc nL rt rb pc lv (.long z :: .long x :: st) h cs :=
  fun p e s m args below meth c C ls H locs hl hH hS => lv_ldiv C.1 C.2.1 hd hne (k p e s m args below meth c C ls H locs hl hH hS)
theorem G_lrem {x z : Int64} (hd : decode cc pc = .ok (.lrem, 1)) (hne : ¬ z = 0) (k : GZ Γ Ω y cc nL rt rb (pc + 1) lv (.long (x - x / z * z) :: st) h cs) : GZ Γ Ω y cc nL rt rb pc lv (.long z :: .long x :: st) h cs :=
  fun p e s m args below meth c C ls H locs hl hH hS => lv_lrem C.1 C.2.1 hd hne (k p e s m args below meth c C ls H locs hl hH hS)
theorem G_iushr {x z : Int32} (hd : decode cc pc = .ok (.iushr, 1)) (k : GZ Γ Ω y cc nL rt rb (pc + 1) lv (.int (g_iushr x z) :: st) h cs) : GZ Γ Ω y cc nL rt rb pc lv (.int z :: .int x :: st) h cs :=
  fun p e s m args below meth c C ls H locs hl hH hS => lv_iushr C.1 C.2.1 hd rfl (k p e s m args below meth c C ls H locs hl hH hS)
theorem G_lushr {x : Int64} {z : Int32} (hd : decode cc pc = .ok (.lushr, 1)) (k : GZ Γ Ω y cc nL rt rb (pc + 1) lv (.long (g_lushr x z) :: st) h cs) : GZ Γ Ω y cc nL rt rb pc lv (.int z :: .long x :: st) h cs :=
  fun p e s m args below meth c C ls H locs hl hH hS => lv_lushr C.1 C.2.1 hd rfl (k p e s m args below meth c C ls H locs hl hH hS)
theorem G_lshl {x : Int64} {z : Int32} (hd : decode cc pc = .ok (.lshl, 1)) (k : GZ Γ Ω y cc nL rt rb (pc + 1) lv (.long (x <<< (z.toInt64 &&& 63)) :: st) h cs) : GZ Γ Ω y cc nL rt rb pc lv (.int z :: .long x :: st) h cs :=
  fun p e s m args below meth c C ls H locs hl hH hS => lv_lshl C.1 C.2.1 hd rfl (k p e s m args below meth c C ls H locs hl hH hS)
theorem G_lcmp {x z : Int64} (hd : decode cc pc = .ok (.lcmp, 1)) (k : GZ Γ Ω y cc nL rt rb (pc + 1) lv (.int (lg_cmp x z) :: st) h cs) : GZ Γ Ω y cc nL rt rb pc lv (.long z :: .long x :: st) h cs :=
  fun p e s m args below meth c C ls H locs hl hH hS => W.lcmp C.1 C.2.1 hd (k p e s m args below meth c C ls H locs hl hH hS)
theorem G_i2l {x : Int32} (hd : decode cc pc = .ok (.i2l, 1)) (k : GZ Γ Ω y cc nL rt rb (pc + 1) lv (.long x.toInt64 :: st) h cs) : GZ Γ Ω y cc nL rt rb pc lv (.int x :: st) h cs :=
  fun p e s m args below meth c C ls H locs hl hH hS => lv_i2l C.1 C.2.1 hd rfl (k p e s m args below meth c C ls H locs hl hH hS)
theorem G_l2i {x : Int64} (hd : decode cc pc = .ok (.l2i, 1)) (k : GZ Γ Ω y cc nL rt rb (pc + 1) lv (.int x.toInt32 :: st) h cs) : GZ Γ Ω y cc nL rt rb pc lv (.long x :: st) h cs :=
  fun p e s m args below meth c C ls H locs hl hH hS => lv_l2i C.1 C.2.1 hd rfl (k p e s m args below meth c C ls H locs hl hH hS)
theorem G_i2c {x : Int32} (hd : decode cc pc = .ok (.i2c, 1)) (k : GZ Γ Ω y cc nL rt rb (pc + 1) lv (.int (x.toUInt32 % 65536).toInt32 :: st) h cs) : GZ Γ Ω y cc nL rt rb pc lv (.int x :: st) h cs :=
  fun p e s m args below meth c C ls H locs hl hH hS => lv_i2c C.1 C.2.1 hd rfl (k p e s m args below meth c C ls H locs hl hH hS)
theorem G_i2b {x : Int32} (hd : decode cc pc = .ok (.i2b, 1)) (k : GZ Γ Ω y cc nL rt rb (pc + 1) lv (.int x.toInt8.toInt32 :: st) h cs) : GZ Γ Ω y cc nL rt rb pc lv (.int x :: st) h cs :=
  fun p e s m args below meth c C ls H locs hl hH hS => lv_i2b C.1 C.2.1 hd rfl (k p e s m args below meth c C ls H locs hl hH hS)
theorem G_dup {a : Value} (hd : decode cc pc = .ok (.dup, 1)) (ha : a.category = 1) (k : GZ Γ Ω y cc nL rt rb (pc + 1) lv (a :: a :: st) h cs) : GZ Γ Ω y cc nL rt rb pc lv (a :: st) h cs :=
  fun p e s m args below meth c C ls H locs hl hH hS => lv_dup C.1 C.2.1 hd ha (k p e s m args below meth c C ls H locs hl hH hS)
theorem G_pop {a : Value} (hd : decode cc pc = .ok (.pop, 1)) (ha : a.category = 1) (k : GZ Γ Ω y cc nL rt rb (pc + 1) lv st h cs) : GZ Γ Ω y cc nL rt rb pc lv (a :: st) h cs :=
  fun p e s m args below meth c C ls H locs hl hH hS => lv_pop C.1 C.2.1 hd ha (k p e s m args below meth c C ls H locs hl hH hS)
theorem G_dup_x1 {a b : Value} (hd : decode cc pc = .ok (.dup_x1, 1)) (ha : a.category = 1) (hb : b.category = 1) (k : GZ Γ Ω y cc nL rt rb (pc + 1) lv (a :: b :: a :: st) h cs) : GZ Γ Ω y cc nL rt rb pc lv (a :: b :: st) h cs :=
  fun p e s m args below meth c C ls H locs hl hH hS => lv_dup_x1 C.1 C.2.1 hd ha hb (k p e s m args below meth c C ls H locs hl hH hS)
theorem G_dup2 {a b : Value} (hd : decode cc pc = .ok (.dup2, 1)) (ha : a.category = 1) (hb : b.category = 1) (k : GZ Γ Ω y cc nL rt rb (pc + 1) lv (a :: b :: a :: b :: st) h cs) : GZ Γ Ω y cc nL rt rb pc lv (a :: b :: st) h cs :=
  fun p e s m args below meth c C ls H locs hl hH hS => lv_dup2_11 C.1 C.2.1 hd ha hb (k p e s m args below meth c C ls H locs hl hH hS)
theorem G_if_eq {x : Int32} {off : Int} {tgt : Nat} (hd : decode cc pc = .ok (.ifCond .eq off, 3)) (ht : (pc : Int) + off = (tgt : Int)) (kt : x = 0 → GZ Γ Ω y cc nL rt rb tgt lv st h cs) (kf : ¬ x = 0 → GZ Γ Ω y cc nL rt rb (pc + 3) lv st h cs) : GZ Γ Ω y cc nL rt rb pc lv (.int x :: st) h cs :=
  fun p e s m args below meth c C ls H locs hl hH hS => lv_if_eq C.1 C.2.1 hd ht (fun q => kt q p e s m args below meth c C ls H locs hl hH hS) (fun q => kf q p e s m args below meth c C ls H locs hl hH hS)
theorem G_icmp_eq {x z : Int32} {off : Int} {tgt : Nat} (hd : decode cc pc = .ok (.if_icmp .eq off, 3)) (ht : (pc : Int) + off = (tgt : Int)) (kt : x = z → GZ Γ Ω y cc nL rt rb tgt lv st h cs) (kf : ¬ x = z → GZ Γ Ω y cc nL rt rb (pc + 3) lv st h cs) : GZ Γ Ω y cc nL rt rb pc lv (.int z :: .int x :: st) h cs :=
  fun p e s m args below meth c C ls H locs hl hH hS => lv_icmp_eq C.1 C.2.1 hd ht (fun q => kt q p e s m args below meth c C ls H locs hl hH hS) (fun q => kf q p e s m args below meth c C ls H locs hl hH hS)
theorem G_if_ne {x : Int32} {off : Int} {tgt : Nat} (hd : decode cc pc = .ok (.ifCond .ne off, 3)) (ht : (pc : Int) + off = (tgt : Int)) (kt : ¬ x = 0 → GZ Γ Ω y cc nL rt rb tgt lv st h cs) (kf : x = 0 → GZ Γ Ω y cc nL rt rb (pc + 3) lv st h cs) : GZ Γ Ω y cc nL rt rb pc lv (.int x :: st) h cs :=
  fun p e s m args below meth c C ls H locs hl hH hS => lv_if_ne C.1 C.2.1 hd ht (fun q => kt q p e s m args below meth c C ls H locs hl hH hS) (fun q => kf q p e s m args below meth c C ls H locs hl hH hS)
theorem G_icmp_ne {x z : Int32} {off : Int} {tgt : Nat} (hd : decode cc pc = .ok (.if_icmp .ne off, 3)) (ht : (pc : Int) + off = (tgt : Int)) (kt : ¬ x = z → GZ Γ Ω y cc nL rt rb tgt lv st h cs) (kf : x = z → GZ Γ Ω y cc nL rt rb (pc + 3) lv st h cs) : GZ Γ Ω y cc nL rt rb pc lv (.int z :: .int x :: st) h cs :=
  fun p e s m args below meth c C ls H locs hl hH hS => lv_icmp_ne C.1 C.2.1 hd ht (fun q => kt q p e s m args below meth c C ls H locs hl hH hS) (fun q => kf q p e s m args below meth c C ls H locs hl hH hS)
theorem G_if_lt {x : Int32} {off : Int} {tgt : Nat} (hd : decode cc pc = .ok (.ifCond .lt off, 3)) (ht : (pc : Int) + off = (tgt : Int)) (kt : x < 0 → GZ Γ Ω y cc nL rt rb tgt lv st h cs) (kf : ¬ x < 0 → GZ Γ Ω y cc nL rt rb (pc + 3) lv st h cs) : GZ Γ Ω y cc nL rt rb pc lv (.int x :: st) h cs :=
  fun p e s m args below meth c C ls H locs hl hH hS => lv_if_lt C.1 C.2.1 hd ht (fun q => kt q p e s m args below meth c C ls H locs hl hH hS) (fun q => kf q p e s m args below meth c C ls H locs hl hH hS)
theorem G_icmp_lt {x z : Int32} {off : Int} {tgt : Nat} (hd : decode cc pc = .ok (.if_icmp .lt off, 3)) (ht : (pc : Int) + off = (tgt : Int)) (kt : x < z → GZ Γ Ω y cc nL rt rb tgt lv st h cs) (kf : ¬ x < z → GZ Γ Ω y cc nL rt rb (pc + 3) lv st h cs) : GZ Γ Ω y cc nL rt rb pc lv (.int z :: .int x :: st) h cs :=
  fun p e s m args below meth c C ls H locs hl hH hS => lv_icmp_lt C.1 C.2.1 hd ht (fun q => kt q p e s m args below meth c C ls H locs hl hH hS) (fun q => kf q p e s m args below meth c C ls H locs hl hH hS)
theorem G_if_ge {x : Int32} {off : Int} {tgt : Nat} (hd : decode cc pc = .ok (.ifCond .ge off, 3)) (ht : (pc : Int) + off = (tgt : Int)) (kt : 0 ≤ x → GZ Γ Ω y cc nL rt rb tgt lv st h cs) (kf : ¬ 0 ≤ x → GZ Γ Ω y cc nL rt rb (pc + 3) lv st h cs) : GZ Γ Ω y cc nL rt rb pc lv (.int x :: st) h cs :=
  fun p e s m args below meth c C ls H locs hl hH hS => lv_if_ge C.1 C.2.1 hd ht (fun q => kt q p e s m args below meth c C ls H locs hl hH hS) (fun q => kf q p e s m args below meth c C ls H locs hl hH hS)
theorem G_icmp_ge {x z : Int32} {off : Int} {tgt : Nat} (hd : decode cc pc = .ok (.if_icmp .ge off, 3)) (ht : (pc : Int) + off = (tgt : Int)) (kt : z ≤ x → GZ Γ Ω y cc nL rt rb tgt lv st h cs) (kf : ¬ z ≤ x → GZ Γ Ω y cc nL rt rb (pc + 3) lv st h cs) : GZ Γ Ω y cc nL rt rb pc lv (.int z :: .int x :: st) h cs :=
  fun p e s m args below meth c C ls H locs hl hH hS => lv_icmp_ge C.1 C.2.1 hd ht (fun q => kt q p e s m args below meth c C ls H locs hl hH hS) (fun q => kf q p e s m args below meth c C ls H locs hl hH hS)
theorem G_if_gt {x : Int32} {off : Int} {tgt : Nat} (hd : decode cc pc = .ok (.ifCond .gt off, 3)) (ht : (pc : Int) + off = (tgt : Int)) (kt : 0 < x → GZ Γ Ω y cc nL rt rb tgt lv st h cs) (kf : ¬ 0 < x → GZ Γ Ω y cc nL rt rb (pc + 3) lv st h cs) : GZ Γ Ω y cc nL rt rb pc lv (.int x :: st) h cs :=
  fun p e s m args below meth c C ls H locs hl hH hS => lv_if_gt C.1 C.2.1 hd ht (fun q => kt q p e s m args below meth c C ls H locs hl hH hS) (fun q => kf q p e s m args below meth c C ls H locs hl hH hS)
theorem G_icmp_gt {x z : Int32} {off : Int} {tgt : Nat} (hd : decode cc pc = .ok (.if_icmp .gt off, 3)) (ht : (pc : Int) + off = (tgt : Int)) (kt : z < x → GZ Γ Ω y cc nL rt rb tgt lv st h cs) (kf : ¬ z < x → GZ Γ Ω y cc nL rt rb (pc + 3) lv st h cs) : GZ Γ Ω y cc nL rt rb pc lv (.int z :: .int x :: st) h cs :=
  fun p e s m args below meth c C ls H locs hl hH hS => lv_icmp_gt C.1 C.2.1 hd ht (fun q => kt q p e s m args below meth c C ls H locs hl hH hS) (fun q => kf q p e s m args below meth c C ls H locs hl hH hS)
theorem G_if_le {x : Int32} {off : Int} {tgt : Nat} (hd : decode cc pc = .ok (.ifCond .le off, 3)) (ht : (pc : Int) + off = (tgt : Int)) (kt : x ≤ 0 → GZ Γ Ω y cc nL rt rb tgt lv st h cs) (kf : ¬ x ≤ 0 → GZ Γ Ω y cc nL rt rb (pc + 3) lv st h cs) : GZ Γ Ω y cc nL rt rb pc lv (.int x :: st) h cs :=
  fun p e s m args below meth c C ls H locs hl hH hS => lv_if_le C.1 C.2.1 hd ht (fun q => kt q p e s m args below meth c C ls H locs hl hH hS) (fun q => kf q p e s m args below meth c C ls H locs hl hH hS)
theorem G_icmp_le {x z : Int32} {off : Int} {tgt : Nat} (hd : decode cc pc = .ok (.if_icmp .le off, 3)) (ht : (pc : Int) + off = (tgt : Int)) (kt : x ≤ z → GZ Γ Ω y cc nL rt rb tgt lv st h cs) (kf : ¬ x ≤ z → GZ Γ Ω y cc nL rt rb (pc + 3) lv st h cs) : GZ Γ Ω y cc nL rt rb pc lv (.int z :: .int x :: st) h cs :=
  fun p e s m args below meth c C ls H locs hl hH hS => lv_icmp_le C.1 C.2.1 hd ht (fun q => kt q p e s m args below meth c C ls H locs hl hH hS) (fun q => kf q p e s m args below meth c C ls H locs hl hH hS)
theorem G_acmp_eq {rx ry : Option Nat} {off : Int} {tgt : Nat} (hd : decode cc pc = .ok (.if_acmp .eq off, 3)) (ht : (pc : Int) + off = (tgt : Int)) (kt : rx = ry → GZ Γ Ω y cc nL rt rb tgt lv st h cs) (kf : ¬ rx = ry → GZ Γ Ω y cc nL rt rb (pc + 3) lv st h cs) : GZ Γ Ω y cc nL rt rb pc lv (va_rf ry :: va_rf rx :: st) h cs :=
  fun p e s m args below meth c C ls H locs hl hH hS => lv_acmp_eq C.1 C.2.1 hd ht (fun q => kt q p e s m args below meth c C ls H locs hl hH hS) (fun q => kf q p e s m args below meth c C ls H locs hl hH hS)
theorem G_acmp_ne {rx ry : Option Nat} {off : Int} {tgt : Nat} (hd : decode cc pc = .ok (.if_acmp .ne off, 3)) (ht : (pc : Int) + off = (tgt : Int)) (kt : ¬ rx = ry → GZ Γ Ω y cc nL rt rb tgt lv st h cs) (kf : rx = ry → GZ Γ Ω y cc nL rt rb (pc + 3) lv st h cs) : GZ Γ Ω y cc nL rt rb pc lv (va_rf ry :: va_rf rx :: st) h cs :=
  fun p e s m args below meth c C ls H locs hl hH hS => lv_acmp_ne C.1 C.2.1 hd ht (fun q => kt q p e s m args below meth c C ls H locs hl hH hS) (fun q => kf q p e s m args below meth c C ls H locs hl hH hS)
theorem G_goto {off : Int} {tgt : Nat} (hd : decode cc pc = .ok (.goto off, 3)) (ht : (pc : Int) + off = (tgt : Int)) (k : GZ Γ Ω y cc nL rt rb tgt lv st h cs) : GZ Γ Ω y cc nL rt rb pc lv st h cs :=
  fun p e s m args below meth c C ls H locs hl hH hS => lv_goto C.1 C.2.1 hd ht (k p e s m args below meth c C ls H locs hl hH hS)
theorem G_ifnull {x : Option Nat} {off : Int} {tgt : Nat} (hd : decode cc pc = .ok (.ifnull off, 3)) (ht : (pc : Int) + off = (tgt : Int)) (kt : x = none → GZ Γ Ω y cc nL rt rb tgt lv st h cs) (kf : ¬ x = none → GZ Γ Ω y cc nL rt rb (pc + 3) lv st h cs) : GZ Γ Ω y cc nL rt rb pc lv (va_rf x :: st) h cs := by
  intro p e s m args below meth c C ls H locs hl hH hS
  cases x with
  | none => exact lv_ifnullN C.1 C.2.1 hd ht (kt rfl p e s m args below meth c C ls H locs hl hH hS)
  | some x => exact lv_ifnull C.1 C.2.1 hd (kf (fun q => by cases q) p e s m args below meth c C ls H locs hl hH hS)
theorem G_ifnonnull {x : Option Nat} {off : Int} {tgt : Nat} (hd : decode cc pc = .ok (.ifnonnull off, 3)) (ht : (pc : Int) + off = (tgt : Int)) (kt : ¬ x = none → GZ Γ Ω y cc nL rt rb tgt lv st h cs) (kf : x = none → GZ Γ Ω y cc nL rt rb (pc + 3) lv st h cs) : GZ Γ Ω y cc nL rt rb pc lv (va_rf x :: st) h cs := by
  intro p e s m args below meth c C ls H locs hl hH hS
  cases x with
  | none => exact lv_ifnonnullN C.1 C.2.1 hd (kf rfl p e s m args below meth c C ls H locs hl hH hS)
  | some x => exact lv_ifnonnull C.1 C.2.1 hd ht (kt (fun q => by cases q) p e s m args below meth c C ls H locs hl hH hS)
theorem G_tableIn {dflt lo hi : Int} {offs : Array Int} {len : Nat} {x : Int32} {off : Int} {tgt : Nat} (hd : decode cc pc = .ok (.tableswitch dflt lo hi offs, len)) (h1 : ¬ x.toInt < lo) (h2 : ¬ hi < x.toInt) (ho : offs[(x.toInt - lo).toNat]? = some off) (ht : (pc : Int) + off = (tgt : Int)) (k : GZ Γ Ω y cc nL rt rb tgt lv st h cs) : GZ Γ Ω y cc nL rt rb pc lv (.int x :: st) h cs :=
  fun p e s m args below meth c C ls H locs hl hH hS => lv_tableIn C.1 C.2.1 hd h1 h2 ho ht (k p e s m args below meth c C ls H locs hl hH hS)
theorem G_tableOut {dflt lo hi : Int} {offs : Array Int} {len : Nat} {x : Int32} {tgt : Nat} (hd : decode cc pc = .ok (.tableswitch dflt lo hi offs, len)) (h1 : x.toInt < lo ∨ hi < x.toInt) (ht : (pc : Int) + dflt = (tgt : Int)) (k : GZ Γ Ω y cc nL rt rb tgt lv st h cs) : GZ Γ Ω y cc nL rt rb pc lv (.int x :: st) h cs :=
  fun p e s m args below meth c C ls H locs hl hH hS => lv_tableOut C.1 C.2.1 hd h1 ht (k p e s m args below meth c C ls H locs hl hH hS)
theorem G_ireturn {x : Int32} (hr : rt = some .int) (hd : decode cc pc = .ok (.ireturn, 1)) (hq : Q (some (.int x)) h) (h1 : cs.1 ≤ rb.2.1 := by first | exact Nat.le_refl _ | exact Nat.le_of_ble_eq_true rfl) (h2 : cs.2 ≤ rb.2.2 := by first | exact Nat.le_refl _ | exact Nat.le_of_ble_eq_true rfl) : G Γ y cc nL rt rb pc lv [.int x] h cs Q :=
  fun p e s m args below meth c C ls H locs hl hH hS => W.widen h1 h2 (W.iret C.1 C.2.1 (C.2.2.1.trans hr) (fun t ht hW => ⟨⟨_, h, rfl, hq, World.of C hH hS ht hW⟩, hS.F ht⟩) hS.2.2 hd C.2.2.2.2.2.2.1)
theorem G_zreturn {x : Int32} {ty : FieldType} (hr : rt = some ty) (hd : decode cc pc = .ok (.ireturn, 1)) (hn : narrow ty (.int x) = .int x) (hq : Q (some (.int x)) h) (h1 : cs.1 ≤ rb.2.1 := by first | exact Nat.le_refl _ | exact Nat.le_of_ble_eq_true rfl) (h2 : cs.2 ≤ rb.2.2 := by first | exact Nat.le_refl _ | exact Nat.le_of_ble_eq_true rfl) : G Γ y cc nL rt rb pc lv [.int x] h cs Q :=
  fun p e s m args below meth c C ls H locs hl hH hS => W.widen h1 h2 (W.zret C.1 C.2.1 (C.2.2.1.trans hr) hn (fun t ht hW => ⟨⟨_, h, rfl, hq, World.of C hH hS ht hW⟩, hS.F ht⟩) hS.2.2 hd C.2.2.2.2.2.2.1)
theorem G_lreturn {x : Int64} (hr : rt = some .long) (hd : decode cc pc = .ok (.lreturn, 1)) (hq : Q (some (.long x)) h) (h1 : cs.1 ≤ rb.2.1 := by first | exact Nat.le_refl _ | exact Nat.le_of_ble_eq_true rfl) (h2 : cs.2 ≤ rb.2.2 := by first | exact Nat.le_refl _ | exact Nat.le_of_ble_eq_true rfl) : G Γ y cc nL rt rb pc lv [.long x] h cs Q :=
  fun p e s m args below meth c C ls H locs hl hH hS => W.widen h1 h2 (W.lret C.1 C.2.1 (C.2.2.1.trans hr) (fun t ht hW => ⟨⟨_, h, rfl, hq, World.of C hH hS ht hW⟩, hS.F ht⟩) hS.2.2 hd C.2.2.2.2.2.2.1)
theorem G_vreturn (hr : rt = none) (hd : decode cc pc = .ok (.return_, 1)) (hq : Q none h) (h1 : cs.1 ≤ rb.2.1 := by first | exact Nat.le_refl _ | exact Nat.le_of_ble_eq_true rfl) (h2 : cs.2 ≤ rb.2.2 := by first | exact Nat.le_refl _ | exact Nat.le_of_ble_eq_true rfl) : G Γ y cc nL rt rb pc lv [] h cs Q :=
  fun p e s m args below meth c C ls H locs hl hH hS => W.widen h1 h2 (W.vret C.1 C.2.1 (C.2.2.1.trans hr) (fun t ht hW => ⟨⟨_, h, rfl, hq, World.of C hH hS ht hW⟩, hS.F ht⟩) hS.2.2 hd C.2.2.2.2.2.2.1)
theorem G_areturn {x : Option Nat} {ty : FieldType} (hr : rt = some ty) (hty : (∃ n, ty = .object n) ∨ ∃ t, ty = .array t) (hd : decode cc pc = .ok (.areturn, 1)) (hq : Q (some (va_rf x)) h) (h1 : cs.1 ≤ rb.2.1 := by first | exact Nat.le_refl _ | exact Nat.le_of_ble_eq_true rfl) (h2 : cs.2 ≤ rb.2.2 := by first | exact Nat.le_refl _ | exact Nat.le_of_ble_eq_true rfl) : G Γ y cc nL rt rb pc lv [va_rf x] h cs Q :=
  fun p e s m args below meth c C ls H locs hl hH hS => W.widen h1 h2 (W.aret C.1 C.2.1 (C.2.2.1.trans hr) hty (by cases x with | none => exact Or.inl rfl | some a => exact Or.inr ⟨a, rfl⟩) (fun t ht hW => ⟨⟨_, h, rfl, hq, World.of C hH hS ht hW⟩, hS.F ht⟩) hS.2.2 hd C.2.2.2.2.2.2.1)
end GR1
