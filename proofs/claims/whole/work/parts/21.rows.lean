/-! ===== one-instruction rows of G ===== -/
section GS
variable {l : Launch} {mi : gMI} {d mc ms : Nat} {Q : gQt} {k n pc : Nat} {lv : List (Option Value)} {st : List Value} {S : gSt} {I : gIt} {J : gJt} {R : gRt}
theorem G_iconst {z : Int} {v : Int32} (hd : decode mi.2.1 pc = .ok (.iconst z, 1)) (hv : Int32.ofInt z = v) (kk : G l mi d mc ms Q k n (pc + 1) lv (.int v :: st) S I J R) : G l mi d mc ms Q k n (pc) lv st S I J R :=
  fun b cA D p e s m args below meth c H locs ls X => lv_iconst X.1.1 X.1.2.1 hd hv (kk b cA D p e s m args below meth c H locs ls X)
theorem G_bipush {z : Int} {v : Int32} (hd : decode mi.2.1 pc = .ok (.bipush z, 2)) (hv : (Int8.ofInt z).toInt32 = v) (kk : G l mi d mc ms Q k n (pc + 2) lv (.int v :: st) S I J R) : G l mi d mc ms Q k n (pc) lv st S I J R :=
  fun b cA D p e s m args below meth c H locs ls X => lv_bipush X.1.1 X.1.2.1 hd hv (kk b cA D p e s m args below meth c H locs ls X)
theorem G_sipush {z : Int} {v : Int32} (hd : decode mi.2.1 pc = .ok (.sipush z, 3)) (hv : (Int16.ofInt z).toInt32 = v) (kk : G l mi d mc ms Q k n (pc + 3) lv (.int v :: st) S I J R) : G l mi d mc ms Q k n (pc) lv st S I J R :=
  fun b cA D p e s m args below meth c H locs ls X => lv_sipush X.1.1 X.1.2.1 hd hv (kk b cA D p e s m args below meth c H locs ls X)
theorem G_lconst {z : Fin 2} {v : Int64} (hd : decode mi.2.1 pc = .ok (.lconst z, 1)) (hv : Int64.ofNat (z : Nat) = v) (kk : G l mi d mc ms Q k n (pc + 1) lv (.long v :: st) S I J R) : G l mi d mc ms Q k n (pc) lv st S I J R :=
  fun b cA D p e s m args below meth c H locs ls X => lv_lconst X.1.1 X.1.2.1 hd hv (kk b cA D p e s m args below meth c H locs ls X)
theorem G_aconst_null  (hd : decode mi.2.1 pc = .ok (.aconst_null, 1)) (kk : G l mi d mc ms Q k n (pc + 1) lv (.null :: st) S I J R) : G l mi d mc ms Q k n (pc) lv st S I J R :=
  fun b cA D p e s m args below meth c H locs ls X => lv_null X.1.1 X.1.2.1 hd (kk b cA D p e s m args below meth c H locs ls X)
theorem G_iload_n {j : Fin 4} {i : Nat} {x : Int32} (hd : decode mi.2.1 pc = .ok (.iload_n j, 1)) (hi : (j : Nat) = i) (h : lv[i]? = some (some (.int x))) (kk : G l mi d mc ms Q k n (pc + 1) lv (.int x :: st) S I J R) : G l mi d mc ms Q k n (pc) lv st S I J R :=
  fun b cA D p e s m args below meth c H locs ls X => lv_iload_n X.1.1 X.1.2.1 hd hi (X.2.2.2.2.2.2 i _ h) (kk b cA D p e s m args below meth c H locs ls X)
theorem G_iload {i : Nat} {x : Int32} (hd : decode mi.2.1 pc = .ok (.iload i, 2)) (h : lv[i]? = some (some (.int x))) (kk : G l mi d mc ms Q k n (pc + 2) lv (.int x :: st) S I J R) : G l mi d mc ms Q k n (pc) lv st S I J R :=
  fun b cA D p e s m args below meth c H locs ls X => lv_iload X.1.1 X.1.2.1 hd (X.2.2.2.2.2.2 i _ h) (kk b cA D p e s m args below meth c H locs ls X)
theorem G_lload_n {j : Fin 4} {i : Nat} {x : Int64} (hd : decode mi.2.1 pc = .ok (.lload_n j, 1)) (hi : (j : Nat) = i) (h : lv[i]? = some (some (.long x))) (kk : G l mi d mc ms Q k n (pc + 1) lv (.long x :: st) S I J R) : G l mi d mc ms Q k n (pc) lv st S I J R :=
  fun b cA D p e s m args below meth c H locs ls X => lv_lload_n X.1.1 X.1.2.1 hd hi (X.2.2.2.2.2.2 i _ h) (kk b cA D p e s m args below meth c H locs ls X)
theorem G_lload {i : Nat} {x : Int64} (hd : decode mi.2.1 pc = .ok (.lload i, 2)) (h : lv[i]? = some (some (.long x))) (kk : G l mi d mc ms Q k n (pc + 2) lv (.long x :: st) S I J R) : G l mi d mc ms Q k n (pc) lv st S I J R :=
  fun b cA D p e s m args below meth c H locs ls X => lv_lload X.1.1 X.1.2.1 hd (X.2.2.2.2.2.2 i _ h) (kk b cA D p e s m args below meth c H locs ls X)
theorem G_aload_n {j : Fin 4} {i : Nat} {x : Nat} (hd : decode mi.2.1 pc = .ok (.aload_n j, 1)) (hi : (j : Nat) = i) (h : lv[i]? = some (some (.ref x))) (kk : G l mi d mc ms Q k n (pc + 1) lv (.ref x :: st) S I J R) : G l mi d mc ms Q k n (pc) lv st S I J R :=
  fun b cA D p e s m args below meth c H locs ls X => lv_aload_n X.1.1 X.1.2.1 hd hi (X.2.2.2.2.2.2 i _ h) (kk b cA D p e s m args below meth c H locs ls X)
theorem G_aload {i : Nat} {x : Nat} (hd : decode mi.2.1 pc = .ok (.aload i, 2)) (h : lv[i]? = some (some (.ref x))) (kk : G l mi d mc ms Q k n (pc + 2) lv (.ref x :: st) S I J R) : G l mi d mc ms Q k n (pc) lv st S I J R :=
  fun b cA D p e s m args below meth c H locs ls X => lv_aload X.1.1 X.1.2.1 hd (X.2.2.2.2.2.2 i _ h) (kk b cA D p e s m args below meth c H locs ls X)
theorem G_aload_nN {j : Fin 4} {i : Nat} (hd : decode mi.2.1 pc = .ok (.aload_n j, 1)) (hi : (j : Nat) = i) (h : lv[i]? = some (some .null)) (kk : G l mi d mc ms Q k n (pc + 1) lv (.null :: st) S I J R) : G l mi d mc ms Q k n (pc) lv st S I J R :=
  fun b cA D p e s m args below meth c H locs ls X => lv_aload_nN X.1.1 X.1.2.1 hd hi (X.2.2.2.2.2.2 i _ h) (kk b cA D p e s m args below meth c H locs ls X)
theorem G_aloadN {i : Nat} (hd : decode mi.2.1 pc = .ok (.aload i, 2)) (h : lv[i]? = some (some .null)) (kk : G l mi d mc ms Q k n (pc + 2) lv (.null :: st) S I J R) : G l mi d mc ms Q k n (pc) lv st S I J R :=
  fun b cA D p e s m args below meth c H locs ls X => lv_aloadN X.1.1 X.1.2.1 hd (X.2.2.2.2.2.2 i _ h) (kk b cA D p e s m args below meth c H locs ls X)
theorem G_istore_n {j : Fin 4} {i : Nat} {x : Int32} (hd : decode mi.2.1 pc = .ok (.istore_n j, 1)) (hi : (j : Nat) = i) (hn : i < mi.2.2.1) (kk : G l mi d mc ms Q k n (pc + 1) (gst1 lv i (.int x)) st S I J R) : G l mi d mc ms Q k n (pc) lv (.int x :: st) S I J R :=
  fun b cA D p e s m args below meth c H locs ls X => lv_istore_n X.1.1 X.1.2.1 hd hi (gLH_has X.2.2.2.2) hn rfl (fun ls' h' => kk b cA D p e s m args below meth c H locs ls' ⟨X.1, X.2.1, X.2.2.1, X.2.2.2.1, gLH_st1 (v := .int x) h'⟩)
theorem G_istore {i : Nat} {x : Int32} (hd : decode mi.2.1 pc = .ok (.istore i, 2)) (hn : i < mi.2.2.1) (kk : G l mi d mc ms Q k n (pc + 2) (gst1 lv i (.int x)) st S I J R) : G l mi d mc ms Q k n (pc) lv (.int x :: st) S I J R :=
  fun b cA D p e s m args below meth c H locs ls X => lv_istore X.1.1 X.1.2.1 hd (gLH_has X.2.2.2.2) hn rfl (fun ls' h' => kk b cA D p e s m args below meth c H locs ls' ⟨X.1, X.2.1, X.2.2.1, X.2.2.2.1, gLH_st1 (v := .int x) h'⟩)
theorem G_lstore_n {j : Fin 4} {i : Nat} {x : Int64} (hd : decode mi.2.1 pc = .ok (.lstore_n j, 1)) (hi : (j : Nat) = i) (hn : i + 1 < mi.2.2.1) (kk : G l mi d mc ms Q k n (pc + 1) (gst2 lv i (.long x)) st S I J R) : G l mi d mc ms Q k n (pc) lv (.long x :: st) S I J R :=
  fun b cA D p e s m args below meth c H locs ls X => lv_lstore_n X.1.1 X.1.2.1 hd hi (gLH_has X.2.2.2.2) hn rfl (fun ls' h' => kk b cA D p e s m args below meth c H locs ls' ⟨X.1, X.2.1, X.2.2.1, X.2.2.2.1, gLH_st2 (v := .long x) h'⟩)
theorem G_lstore {i : Nat} {x : Int64} (hd : decode mi.2.1 pc = .ok (.lstore i, 2)) (hn : i + 1 < mi.2.2.1) (kk : G l mi d mc ms Q k n (pc + 2) (gst2 lv i (.long x)) st S I J R) : G l mi d mc ms Q k n (pc) lv (.long x :: st) S I J R :=
  fun b cA D p e s m args below meth c H locs ls X => lv_lstore X.1.1 X.1.2.1 hd (gLH_has X.2.2.2.2) hn rfl (fun ls' h' => kk b cA D p e s m args below meth c H locs ls' ⟨X.1, X.2.1, X.2.2.1, X.2.2.2.1, gLH_st2 (v := .long x) h'⟩)
theorem G_astore_n {j : Fin 4} {i : Nat} {x : Nat} (hd : decode mi.2.1 pc = .ok (.astore_n j, 1)) (hi : (j : Nat) = i) (hn : i < mi.2.2.1) (kk : G l mi d mc ms Q k n (pc + 1) (gst1 lv i (.ref x)) st S I J R) : G l mi d mc ms Q k n (pc) lv (.ref x :: st) S I J R :=
  fun b cA D p e s m args below meth c H locs ls X => lv_astore_n X.1.1 X.1.2.1 hd hi (gLH_has X.2.2.2.2) hn rfl (fun ls' h' => kk b cA D p e s m args below meth c H locs ls' ⟨X.1, X.2.1, X.2.2.1, X.2.2.2.1, gLH_st1 (v := .ref x) h'⟩)
theorem G_astore {i : Nat} {x : Nat} (hd : decode mi.2.1 pc = .ok (.astore i, 2)) (hn : i < mi.2.2.1) (kk : G l mi d mc ms Q k n (pc + 2) (gst1 lv i (.ref x)) st S I J R) : G l mi d mc ms Q k n (pc) lv (.ref x :: st) S I J R :=
  fun b cA D p e s m args below meth c H locs ls X => lv_astore X.1.1 X.1.2.1 hd (gLH_has X.2.2.2.2) hn rfl (fun ls' h' => kk b cA D p e s m args below meth c H locs ls' ⟨X.1, X.2.1, X.2.2.1, X.2.2.2.1, gLH_st1 (v := .ref x) h'⟩)
theorem G_astore_nN {j : Fin 4} {i : Nat} (hd : decode mi.2.1 pc = .ok (.astore_n j, 1)) (hi : (j : Nat) = i) (hn : i < mi.2.2.1) (kk : G l mi d mc ms Q k n (pc + 1) (gst1 lv i (.null)) st S I J R) : G l mi d mc ms Q k n (pc) lv (.null :: st) S I J R :=
  fun b cA D p e s m args below meth c H locs ls X => lv_astore_nN X.1.1 X.1.2.1 hd hi (gLH_has X.2.2.2.2) hn rfl (fun ls' h' => kk b cA D p e s m args below meth c H locs ls' ⟨X.1, X.2.1, X.2.2.1, X.2.2.2.1, gLH_st1 (v := .null) h'⟩)
theorem G_astoreN {i : Nat} (hd : decode mi.2.1 pc = .ok (.astore i, 2)) (hn : i < mi.2.2.1) (kk : G l mi d mc ms Q k n (pc + 2) (gst1 lv i (.null)) st S I J R) : G l mi d mc ms Q k n (pc) lv (.null :: st) S I J R :=
  fun b cA D p e s m args below meth c H locs ls X => lv_astoreN X.1.1 X.1.2.1 hd (gLH_has X.2.2.2.2) hn rfl (fun ls' h' => kk b cA D p e s m args below meth c H locs ls' ⟨X.1, X.2.1, X.2.2.1, X.2.2.2.1, gLH_st1 (v := .null) h'⟩)
theorem G_iinc {i : Nat} {z : Int} {x v : Int32} (hd : decode mi.2.1 pc = .ok (.iinc i z, 3)) (h : lv[i]? = some (some (.int x))) (hv : Int32.ofInt z = v) (hn : i < mi.2.2.1) (kk : G l mi d mc ms Q k n (pc + 3) (gst1 lv i (.int (x + v))) st S I J R) : G l mi d mc ms Q k n (pc) lv st S I J R := by
  intro b cA D p e s m args below meth c H locs ls X
  have hm : (i, Value.int x) ∈ gpl b lv := gpl_mem.mpr ⟨_, h, rfl⟩
  obtain ⟨q, hq⟩ := List.getElem?_of_mem hm
  exact lv_iinc (v := x + v) X.1.1 X.1.2.1 hd (gLH_has X.2.2.2.2) hq (by rw [hv]) hn rfl (fun ls' h' => kk b cA D p e s m args below meth c H locs ls' ⟨X.1, X.2.1, X.2.2.1, X.2.2.2.1, gLH_st1 (v := .int (x + v)) h'⟩)
theorem G_iadd {x y : Int32} (hd : decode mi.2.1 pc = .ok (.iadd, 1)) (kk : G l mi d mc ms Q k n (pc + 1) lv (.int (x + y) :: st) S I J R) : G l mi d mc ms Q k n (pc) lv (.int y :: .int x :: st) S I J R :=
  fun b cA D p e s m args below meth c H locs ls X => lv_iadd X.1.1 X.1.2.1 hd (kk b cA D p e s m args below meth c H locs ls X)
theorem G_isub {x y : Int32} (hd : decode mi.2.1 pc = .ok (.isub, 1)) (kk : G l mi d mc ms Q k n (pc + 1) lv (.int (x - y) :: st) S I J R) : G l mi d mc ms Q k n (pc) lv (.int y :: .int x :: st) S I J R :=
  fun b cA D p e s m args below meth c H locs ls X => lv_isub X.1.1 X.1.2.1 hd (kk b cA D p e s m args below meth c H locs ls X)
theorem G_imul {x y : Int32} (hd : decode mi.2.1 pc = .ok (.imul, 1)) (kk : G l mi d mc ms Q k n (pc + 1) lv (.int (x * y) :: st) S I J R) : G l mi d mc ms Q k n (pc) lv (.int y :: .int x :: st) S I J R :=
  fun b cA D p e s m args below meth c H locs ls X => lv_imul X.1.1 X.1.2.1 hd (kk b cA D p e s m args below meth c H locs ls X)
theorem G_iand {x y : Int32} (hd : decode mi.2.1 pc = .ok (.iand, 1)) (kk : G l mi d mc ms Q k n (pc + 1) lv (.int (x &&& y) :: st) S I J R) : G l mi d mc ms Q k n (pc) lv (.int y :: .int x :: st) S I J R :=
  fun b cA D p e s m args below meth c H locs ls X => lv_iand X.1.1 X.1.2.1 hd (kk b cA D p e s m args below meth c H locs ls X)
theorem G_ior {x y : Int32} (hd : decode mi.2.1 pc = .ok (.ior, 1)) (kk : G l mi d mc ms Q k n (pc + 1) lv (.int (x ||| y) :: st) S I J R) : G l mi d mc ms Q k n (pc) lv (.int y :: .int x :: st) S I J R :=
  fun b cA D p e s m args below meth c H locs ls X => lv_ior X.1.1 X.1.2.1 hd (kk b cA D p e s m args below meth c H locs ls X)
theorem G_ixor {x y : Int32} (hd : decode mi.2.1 pc = .ok (.ixor, 1)) (kk : G l mi d mc ms Q k n (pc + 1) lv (.int (x ^^^ y) :: st) S I J R) : G l mi d mc ms Q k n (pc) lv (.int y :: .int x :: st) S I J R :=
  fun b cA D p e s m args below meth c H locs ls X => lv_ixor X.1.1 X.1.2.1 hd (kk b cA D p e s m args below meth c H locs ls X)
theorem G_ishl {x y : Int32} (hd : decode mi.2.1 pc = .ok (.ishl, 1)) (kk : G l mi d mc ms Q k n (pc + 1) lv (.int (x <<< (y &&& 31)) :: st) S I J R) : G l mi d mc ms Q k n (pc) lv (.int y :: .int x :: st) S I J R :=
  fun b cA D p e s m args below meth c H locs ls X => lv_ishl X.1.1 X.1.2.1 hd (kk b cA D p e s m args below meth c H locs ls X)
theorem G_ishr {x y : Int32} (hd : decode mi.2.1 pc = .ok (.ishr, 1)) (kk : G l mi d mc ms Q k n (pc + 1) lv (.int (x >>> (y &&& 31)) :: st) S I J R) : G l mi d mc ms Q k n (pc) lv (.int y :: .int x :: st) S I J R :=
  fun b cA D p e s m args below meth c H locs ls X => lv_ishr X.1.1 X.1.2.1 hd (kk b cA D p e s m args below meth c H locs ls X)
theorem G_iushr {x y : Int32} (hd : decode mi.2.1 pc = .ok (.iushr, 1)) (kk : G l mi d mc ms Q k n (pc + 1) lv (.int ((x.toUInt32 >>> (y.toUInt32 &&& Int32.toUInt32 31)).toInt32) :: st) S I J R) : G l mi d mc ms Q k n (pc) lv (.int y :: .int x :: st) S I J R :=
  fun b cA D p e s m args below meth c H locs ls X => lv_iushr X.1.1 X.1.2.1 hd rfl (kk b cA D p e s m args below meth c H locs ls X)
theorem G_idiv {x y : Int32} (hd : decode mi.2.1 pc = .ok (.idiv, 1)) (hne : ¬ y = 0) (kk : G l mi d mc ms Q k n (pc + 1) lv (.int (x / y) :: st) S I J R) : G l mi d mc ms Q k n (pc) lv (.int y :: .int x :: st) S I J R :=
  fun b cA D p e s m args below meth c H locs ls X => lv_idiv X.1.1 X.1.2.1 hd hne (kk b cA D p e s m args below meth c H locs ls X)
theorem G_irem {x y : Int32} (hd : decode mi.2.1 pc = .ok (.irem, 1)) (hne : ¬ y = 0) (kk : G l mi d mc ms Q k n (pc + 1) lv (.int (x - x / y * y) :: st) S I J R) : G l mi d mc ms Q k n (pc) lv (.int y :: .int x :: st) S I J R :=
  fun b cA D p e s m args below meth c H locs ls X => lv_irem X.1.1 X.1.2.1 hd hne (kk b cA D p e s m args below meth c H locs ls X)
theorem G_ladd {x y : Int64} (hd : decode mi.2.1 pc = .ok (.ladd, 1)) (kk : G l mi d mc ms Q k n (pc + 1) lv (.long (x + y) :: st) S I J R) : G l mi d mc ms Q k n (pc) lv (.long y :: .long x :: st) S I J R :=
  fun b cA D p e s m args below meth c H locs ls X => lv_ladd X.1.1 X.1.2.1 hd (kk b cA D p e s m args below meth c H locs ls X)
theorem G_lsub {x y : Int64} (hd : decode mi.2.1 pc = .ok (.lsub, 1)) (kk : G l mi d mc ms Q k n (pc + 1) lv (.long (x - y) :: st) S I J R) : G l mi d mc ms Q k n (pc) lv (.long y :: .long x :: st) S I J R :=
  fun b cA D p e s m args below meth c H locs ls X => lv_lsub X.1.1 X.1.2.1 hd (kk b cA D p e s m args below meth c H locs ls X)
theorem G_lmul {x y : Int64} (hd : decode mi.2.1 pc = .ok (.lmul, 1)) (kk : G l mi d mc ms Q k n (pc + 1) lv (.long (x * y) :: st) S I J R) : G l mi d mc ms Q k n (pc) lv (.long y :: .long x :: st) S I J R :=
  fun b cA D p e s m args below meth c H locs ls X => lv_lmul X.1.1 X.1.2.1 hd (kk b cA D p e s m args below meth c H locs ls X)
theorem G_ldiv {x y : Int64} (hd : decode mi.2.1 pc = .ok (.ldiv, 1)) (hne : ¬ y = 0) (kk : G l mi d mc ms Q k n (pc + 1) lv (.long (x / y) :: st) S I J R) : G l mi d mc ms Q k n (pc) lv (.long y :: .long x :: st) S I J R :=
  fun b cA D p e s m args below meth c H locs ls X => lv_ldiv X.1.1 X.1.2.1 hd hne (kk b cA D p e s m args below meth c H locs ls X)
theorem G_lcmp {x y : Int64} (hd : decode mi.2.1 pc = .ok (.lcmp, 1)) (kk : G l mi d mc ms Q k n (pc + 1) lv (.int (lg_cmp x y) :: st) S I J R) : G l mi d mc ms Q k n (pc) lv (.long y :: .long x :: st) S I J R :=
  fun b cA D p e s m args below meth c H locs ls X => W.lcmp X.1.1 X.1.2.1 hd (kk b cA D p e s m args below meth c H locs ls X)
theorem G_i2l {x : Int32} (hd : decode mi.2.1 pc = .ok (.i2l, 1)) (kk : G l mi d mc ms Q k n (pc + 1) lv (.long x.toInt64 :: st) S I J R) : G l mi d mc ms Q k n (pc) lv (.int x :: st) S I J R :=
  fun b cA D p e s m args below meth c H locs ls X => lv_i2l X.1.1 X.1.2.1 hd rfl (kk b cA D p e s m args below meth c H locs ls X)
theorem G_l2i {x : Int64} (hd : decode mi.2.1 pc = .ok (.l2i, 1)) (kk : G l mi d mc ms Q k n (pc + 1) lv (.int x.toInt32 :: st) S I J R) : G l mi d mc ms Q k n (pc) lv (.long x :: st) S I J R :=
  fun b cA D p e s m args below meth c H locs ls X => lv_l2i X.1.1 X.1.2.1 hd rfl (kk b cA D p e s m args below meth c H locs ls X)
theorem G_i2b {x : Int32} (hd : decode mi.2.1 pc = .ok (.i2b, 1)) (kk : G l mi d mc ms Q k n (pc + 1) lv (.int x.toInt8.toInt32 :: st) S I J R) : G l mi d mc ms Q k n (pc) lv (.int x :: st) S I J R :=
  fun b cA D p e s m args below meth c H locs ls X => lv_i2b X.1.1 X.1.2.1 hd rfl (kk b cA D p e s m args below meth c H locs ls X)
theorem G_dup {va : Value} (hd : decode mi.2.1 pc = .ok (.dup, 1)) (hva : va.category = 1) (kk : G l mi d mc ms Q k n (pc + 1) lv (va :: va :: st) S I J R) : G l mi d mc ms Q k n (pc) lv (va :: st) S I J R :=
  fun b cA D p e s m args below meth c H locs ls X => lv_dup X.1.1 X.1.2.1 hd ((gcv_cat b va).trans hva) (kk b cA D p e s m args below meth c H locs ls X)
theorem G_pop {va : Value} (hd : decode mi.2.1 pc = .ok (.pop, 1)) (hva : va.category = 1) (kk : G l mi d mc ms Q k n (pc + 1) lv st S I J R) : G l mi d mc ms Q k n (pc) lv (va :: st) S I J R :=
  fun b cA D p e s m args below meth c H locs ls X => lv_pop X.1.1 X.1.2.1 hd ((gcv_cat b va).trans hva) (kk b cA D p e s m args below meth c H locs ls X)
theorem G_dup2 {va vb : Value} (hd : decode mi.2.1 pc = .ok (.dup2, 1)) (hva : va.category = 1) (hvb : vb.category = 1) (kk : G l mi d mc ms Q k n (pc + 1) lv (va :: vb :: va :: vb :: st) S I J R) : G l mi d mc ms Q k n (pc) lv (va :: vb :: st) S I J R :=
  fun b cA D p e s m args below meth c H locs ls X => lv_dup2_11 X.1.1 X.1.2.1 hd ((gcv_cat b va).trans hva) ((gcv_cat b vb).trans hvb) (kk b cA D p e s m args below meth c H locs ls X)
-- branches
theorem G_if_eq {x : Int32} {off : Int} (tgt : Nat) (hd : decode mi.2.1 pc = .ok (.ifCond .eq off, 3)) (ht : (pc : Int) + off = (tgt : Int)) (kt : x = 0 → G l mi d mc ms Q k n (tgt) lv st S I J R) (kf : ¬ x = 0 → G l mi d mc ms Q k n (pc + 3) lv st S I J R) : G l mi d mc ms Q k n (pc) lv (.int x :: st) S I J R :=
  fun b cA D p e s m args below meth c H locs ls X => lv_if_eq X.1.1 X.1.2.1 hd ht (fun h => kt h b cA D p e s m args below meth c H locs ls X) (fun h => kf h b cA D p e s m args below meth c H locs ls X)
theorem G_if_ne {x : Int32} {off : Int} (tgt : Nat) (hd : decode mi.2.1 pc = .ok (.ifCond .ne off, 3)) (ht : (pc : Int) + off = (tgt : Int)) (kt : ¬ x = 0 → G l mi d mc ms Q k n (tgt) lv st S I J R) (kf : x = 0 → G l mi d mc ms Q k n (pc + 3) lv st S I J R) : G l mi d mc ms Q k n (pc) lv (.int x :: st) S I J R :=
  fun b cA D p e s m args below meth c H locs ls X => lv_if_ne X.1.1 X.1.2.1 hd ht (fun h => kt h b cA D p e s m args below meth c H locs ls X) (fun h => kf h b cA D p e s m args below meth c H locs ls X)
theorem G_if_lt {x : Int32} {off : Int} (tgt : Nat) (hd : decode mi.2.1 pc = .ok (.ifCond .lt off, 3)) (ht : (pc : Int) + off = (tgt : Int)) (kt : x < 0 → G l mi d mc ms Q k n (tgt) lv st S I J R) (kf : ¬ x < 0 → G l mi d mc ms Q k n (pc + 3) lv st S I J R) : G l mi d mc ms Q k n (pc) lv (.int x :: st) S I J R :=
  fun b cA D p e s m args below meth c H locs ls X => lv_if_lt X.1.1 X.1.2.1 hd ht (fun h => kt h b cA D p e s m args below meth c H locs ls X) (fun h => kf h b cA D p e s m args below meth c H locs ls X)
theorem G_if_ge {x : Int32} {off : Int} (tgt : Nat) (hd : decode mi.2.1 pc = .ok (.ifCond .ge off, 3)) (ht : (pc : Int) + off = (tgt : Int)) (kt : 0 ≤ x → G l mi d mc ms Q k n (tgt) lv st S I J R) (kf : ¬ 0 ≤ x → G l mi d mc ms Q k n (pc + 3) lv st S I J R) : G l mi d mc ms Q k n (pc) lv (.int x :: st) S I J R :=
  fun b cA D p e s m args below meth c H locs ls X => lv_if_ge X.1.1 X.1.2.1 hd ht (fun h => kt h b cA D p e s m args below meth c H locs ls X) (fun h => kf h b cA D p e s m args below meth c H locs ls X)
theorem G_if_gt {x : Int32} {off : Int} (tgt : Nat) (hd : decode mi.2.1 pc = .ok (.ifCond .gt off, 3)) (ht : (pc : Int) + off = (tgt : Int)) (kt : 0 < x → G l mi d mc ms Q k n (tgt) lv st S I J R) (kf : ¬ 0 < x → G l mi d mc ms Q k n (pc + 3) lv st S I J R) : G l mi d mc ms Q k n (pc) lv (.int x :: st) S I J R :=
  fun b cA D p e s m args below meth c H locs ls X => lv_if_gt X.1.1 X.1.2.1 hd ht (fun h => kt h b cA D p e s m args below meth c H locs ls X) (fun h => kf h b cA D p e s m args below meth c H locs ls X)
theorem G_if_le {x : Int32} {off : Int} (tgt : Nat) (hd : decode mi.2.1 pc = .ok (.ifCond .le off, 3)) (ht : (pc : Int) + off = (tgt : Int)) (kt : x ≤ 0 → G l mi d mc ms Q k n (tgt) lv st S I J R) (kf : ¬ x ≤ 0 → G l mi d mc ms Q k n (pc + 3) lv st S I J R) : G l mi d mc ms Q k n (pc) lv (.int x :: st) S I J R :=
  fun b cA D p e s m args below meth c H locs ls X => lv_if_le X.1.1 X.1.2.1 hd ht (fun h => kt h b cA D p e s m args below meth c H locs ls X) (fun h => kf h b cA D p e s m args below meth c H locs ls X)
theorem G_icmp_eq {x y : Int32} {off : Int} (tgt : Nat) (hd : decode mi.2.1 pc = .ok (.if_icmp .eq off, 3)) (ht : (pc : Int) + off = (tgt : Int)) (kt : x = y → G l mi d mc ms Q k n (tgt) lv st S I J R) (kf : ¬ x = y → G l mi d mc ms Q k n (pc + 3) lv st S I J R) : G l mi d mc ms Q k n (pc) lv (.int y :: .int x :: st) S I J R :=
  fun b cA D p e s m args below meth c H locs ls X => lv_icmp_eq X.1.1 X.1.2.1 hd ht (fun h => kt h b cA D p e s m args below meth c H locs ls X) (fun h => kf h b cA D p e s m args below meth c H locs ls X)
theorem G_icmp_ne {x y : Int32} {off : Int} (tgt : Nat) (hd : decode mi.2.1 pc = .ok (.if_icmp .ne off, 3)) (ht : (pc : Int) + off = (tgt : Int)) (kt : ¬ x = y → G l mi d mc ms Q k n (tgt) lv st S I J R) (kf : x = y → G l mi d mc ms Q k n (pc + 3) lv st S I J R) : G l mi d mc ms Q k n (pc) lv (.int y :: .int x :: st) S I J R :=
  fun b cA D p e s m args below meth c H locs ls X => lv_icmp_ne X.1.1 X.1.2.1 hd ht (fun h => kt h b cA D p e s m args below meth c H locs ls X) (fun h => kf h b cA D p e s m args below meth c H locs ls X)
theorem G_icmp_lt {x y : Int32} {off : Int} (tgt : Nat) (hd : decode mi.2.1 pc = .ok (.if_icmp .lt off, 3)) (ht : (pc : Int) + off = (tgt : Int)) (kt : x < y → G l mi d mc ms Q k n (tgt) lv st S I J R) (kf : ¬ x < y → G l mi d mc ms Q k n (pc + 3) lv st S I J R) : G l mi d mc ms Q k n (pc) lv (.int y :: .int x :: st) S I J R :=
  fun b cA D p e s m args below meth c H locs ls X => lv_icmp_lt X.1.1 X.1.2.1 hd ht (fun h => kt h b cA D p e s m args below meth c H locs ls X) (fun h => kf h b cA D p e s m args below meth c H locs ls X)
theorem G_icmp_ge {x y : Int32} {off : Int} (tgt : Nat) (hd : decode mi.2.1 pc = .ok (.if_icmp .ge off, 3)) (ht : (pc : Int) + off = (tgt : Int)) (kt : y ≤ x → G l mi d mc ms Q k n (tgt) lv st S I J R) (kf : ¬ y ≤ x → G l mi d mc ms Q k n (pc + 3) lv st S I J R) : G l mi d mc ms Q k n (pc) lv (.int y :: .int x :: st) S I J R :=
  fun b cA D p e s m args below meth c H locs ls X => lv_icmp_ge X.1.1 X.1.2.1 hd ht (fun h => kt h b cA D p e s m args below meth c H locs ls X) (fun h => kf h b cA D p e s m args below meth c H locs ls X)
theorem G_icmp_gt {x y : Int32} {off : Int} (tgt : Nat) (hd : decode mi.2.1 pc = .ok (.if_icmp .gt off, 3)) (ht : (pc : Int) + off = (tgt : Int)) (kt : y < x → G l mi d mc ms Q k n (tgt) lv st S I J R) (kf : ¬ y < x → G l mi d mc ms Q k n (pc + 3) lv st S I J R) : G l mi d mc ms Q k n (pc) lv (.int y :: .int x :: st) S I J R :=
  fun b cA D p e s m args below meth c H locs ls X => lv_icmp_gt X.1.1 X.1.2.1 hd ht (fun h => kt h b cA D p e s m args below meth c H locs ls X) (fun h => kf h b cA D p e s m args below meth c H locs ls X)
theorem G_icmp_le {x y : Int32} {off : Int} (tgt : Nat) (hd : decode mi.2.1 pc = .ok (.if_icmp .le off, 3)) (ht : (pc : Int) + off = (tgt : Int)) (kt : x ≤ y → G l mi d mc ms Q k n (tgt) lv st S I J R) (kf : ¬ x ≤ y → G l mi d mc ms Q k n (pc + 3) lv st S I J R) : G l mi d mc ms Q k n (pc) lv (.int y :: .int x :: st) S I J R :=
  fun b cA D p e s m args below meth c H locs ls X => lv_icmp_le X.1.1 X.1.2.1 hd ht (fun h => kt h b cA D p e s m args below meth c H locs ls X) (fun h => kf h b cA D p e s m args below meth c H locs ls X)
theorem G_goto {off : Int} (tgt : Nat) (hd : decode mi.2.1 pc = .ok (.goto off, 3)) (ht : (pc : Int) + off = (tgt : Int)) (kk : G l mi d mc ms Q k n (tgt) lv st S I J R) : G l mi d mc ms Q k n (pc) lv st S I J R :=
  fun b cA D p e s m args below meth c H locs ls X => lv_goto X.1.1 X.1.2.1 hd ht (kk b cA D p e s m args below meth c H locs ls X)
theorem G_ifnull {x : Nat} {off : Int} (hd : decode mi.2.1 pc = .ok (.ifnull off, 3)) (kk : G l mi d mc ms Q k n (pc + 3) lv st S I J R) : G l mi d mc ms Q k n (pc) lv (.ref x :: st) S I J R :=
  fun b cA D p e s m args below meth c H locs ls X => lv_ifnull X.1.1 X.1.2.1 hd (kk b cA D p e s m args below meth c H locs ls X)
theorem G_ifnullN {off : Int} (tgt : Nat) (hd : decode mi.2.1 pc = .ok (.ifnull off, 3)) (ht : (pc : Int) + off = (tgt : Int)) (kk : G l mi d mc ms Q k n (tgt) lv st S I J R) : G l mi d mc ms Q k n (pc) lv (.null :: st) S I J R :=
  fun b cA D p e s m args below meth c H locs ls X => lv_ifnullN X.1.1 X.1.2.1 hd ht (kk b cA D p e s m args below meth c H locs ls X)
theorem G_ifnonnull {x : Nat} {off : Int} (tgt : Nat) (hd : decode mi.2.1 pc = .ok (.ifnonnull off, 3)) (ht : (pc : Int) + off = (tgt : Int)) (kk : G l mi d mc ms Q k n (tgt) lv st S I J R) : G l mi d mc ms Q k n (pc) lv (.ref x :: st) S I J R :=
  fun b cA D p e s m args below meth c H locs ls X => lv_ifnonnull X.1.1 X.1.2.1 hd ht (kk b cA D p e s m args below meth c H locs ls X)
theorem G_ifnonnullN {off : Int} (hd : decode mi.2.1 pc = .ok (.ifnonnull off, 3)) (kk : G l mi d mc ms Q k n (pc + 3) lv st S I J R) : G l mi d mc ms Q k n (pc) lv (.null :: st) S I J R :=
  fun b cA D p e s m args below meth c H locs ls X => lv_ifnonnullN X.1.1 X.1.2.1 hd (kk b cA D p e s m args below meth c H locs ls X)
theorem G_tsOut {dflt lo hi : Int} {offs : Array Int} {len : Nat} {x : Int32} (tgt : Nat) (hd : decode mi.2.1 pc = .ok (.tableswitch dflt lo hi offs, len)) (h : x.toInt < lo ∨ hi < x.toInt) (ht : (pc : Int) + dflt = (tgt : Int)) (kk : G l mi d mc ms Q k n (tgt) lv st S I J R) : G l mi d mc ms Q k n (pc) lv (.int x :: st) S I J R :=
  fun b cA D p e s m args below meth c H locs ls X => lv_tableOut X.1.1 X.1.2.1 hd h ht (kk b cA D p e s m args below meth c H locs ls X)
theorem G_tsIn {dflt lo hi : Int} {offs : Array Int} {len : Nat} {x : Int32} {off : Int} (tgt : Nat) (hd : decode mi.2.1 pc = .ok (.tableswitch dflt lo hi offs, len)) (h1 : ¬ x.toInt < lo) (h2 : ¬ hi < x.toInt) (ho : offs[(x.toInt - lo).toNat]? = some off) (ht : (pc : Int) + off = (tgt : Int)) (kk : G l mi d mc ms Q k n (tgt) lv st S I J R) : G l mi d mc ms Q k n (pc) lv (.int x :: st) S I J R :=
  fun b cA D p e s m args below meth c H locs ls X => lv_tableIn X.1.1 X.1.2.1 hd h1 h2 ho ht (kk b cA D p e s m args below meth c H locs ls X)
theorem G_lsw {dflt : Int} {ps : Array (Int × Int)} {len : Nat} {x : Int32} {off : Int} (tgt : Nat) (hd : decode mi.2.1 pc = .ok (.lookupswitch dflt ps, len)) (hp : (ps.toList.zip (ps.toList.drop 1)).all (fun (a, next) => a.1 < next.1) = true) (ho : Op.lookupswitch.offset ps.toList dflt x.toInt = off) (ht : (pc : Int) + off = (tgt : Int)) (kk : G l mi d mc ms Q k n (tgt) lv st S I J R) : G l mi d mc ms Q k n (pc) lv (.int x :: st) S I J R :=
  fun b cA D p e s m args below meth c H locs ls X => lv_lookup X.1.1 X.1.2.1 hd hp ho ht (kk b cA D p e s m args below meth c H locs ls X)
theorem G_ldc {idx : Nat} {v : Int32} (hd : decode mi.2.1 pc = .ok (.ldc idx, 2)) (hw : Cond.constant mi.1.cls idx v ∈ gtb) (kk : G l mi d mc ms Q k n (pc + 2) lv (.int v :: st) S I J R) : G l mi d mc ms Q k n (pc) lv st S I J R :=
  fun b cA D p e s m args below meth c H locs ls X => lv_ldc X.1.1 X.1.2.1 X.1.2.2.2.2.1 (X.1.2.2.2.2.2.1 _ hw) hd (kk b cA D p e s m args below meth c H locs ls X)
theorem G_ldcw {idx : Nat} {v : Int32} (hd : decode mi.2.1 pc = .ok (.ldc_w idx, 3)) (hw : Cond.constant mi.1.cls idx v ∈ gtb) (kk : G l mi d mc ms Q k n (pc + 3) lv (.int v :: st) S I J R) : G l mi d mc ms Q k n (pc) lv st S I J R :=
  fun b cA D p e s m args below meth c H locs ls X => lv_ldcw X.1.1 X.1.2.1 X.1.2.2.2.2.1 (X.1.2.2.2.2.2.1 _ hw) hd (kk b cA D p e s m args below meth c H locs ls X)
theorem G_ldc2 {idx : Nat} {v : Int64} (hd : decode mi.2.1 pc = .ok (.ldc2_w idx, 3)) (hw : Cond.constantLong mi.1.cls idx v ∈ gtb) (kk : G l mi d mc ms Q k n (pc + 3) lv (.long v :: st) S I J R) : G l mi d mc ms Q k n (pc) lv st S I J R :=
  fun b cA D p e s m args below meth c H locs ls X => lv_ldc2 X.1.1 X.1.2.1 X.1.2.2.2.2.1 (X.1.2.2.2.2.2.1 _ hw) hd (kk b cA D p e s m args below meth c H locs ls X)
end GS
