/-! ===== cells are made ===== -/
def grl (L : List (Nat × Nat × Nat)) : gRt := fun x y => (L.find? (fun q => q.1 == x && q.2.1 == y)).map (fun q => q.2.2)
theorem grl_cons (L : List (Nat × Nat × Nat)) (a j r : Nat) : gu2 (grl L) a j (some r) = grl ((a, j, r) :: L) := by
  funext x y
  unfold gu2 grl
  rw [List.find?_cons]
  by_cases h : x = a ∧ y = j
  · obtain ⟨rfl, rfl⟩ := h
    simp
  · rw [if_neg h]
    have : ((a == x) && (j == y)) = false := by
      cases hb : ((a == x) && (j == y)) with
      | false => rfl
      | true =>
        simp at hb
        exact absurd ⟨hb.1.symm, hb.2.symm⟩ h
    simp only [this]
theorem grl_none {L : List (Nat × Nat × Nat)} {n : Nat} (h : ∀ q ∈ L, q.1 < n) {x : Nat} (hx : n ≤ x) (j : Nat) : grl L x j = none := by
  unfold grl
  rw [List.find?_eq_none.mpr]
  · rfl
  · intro q hq
    have := h q hq
    simp
    intro e
    omega
theorem gws_push {b : Nat} {cA : Nat → ClassId} {N : Nat} {f : Nat → Nat × Nat} {I : gIt} {J : gJt} {R : gRt} : gws b cA (N + 1, f) I J R = gws b cA (N, f) I J R ++ [(b + N, gce b cA (N + 1, f) I J R N)] := by
  simp [gws, List.range_succ, gce]
theorem gdef_ok : ∀ c, c < 13 → ∀ j, j < gnf c → defaultValue (gty c j) = gfv 0 (fun _ _ => 0) (fun _ _ => 0) (fun _ _ => none) 0 (gkd (gty c j)) 0 := by decide +kernel
theorem gouter (c : ClassId) (N h0 : Nat) : ∀ i : Nat, Jvm.Free.Multi.outerC c N h0 i = arrV c N (fun j => va_rf (if j < i then some (h0 + 1 + j) else none))
  | 0 => by
    show ({ cls := c, slots := Array.replicate N .null, vm := .none } : Cell) = _
    rw [arrV_new]
    exact congrArg (arrV c N) (funext fun j => by simp [va_rf])
  | i + 1 => by
    show (Jvm.Free.Multi.outerC c N h0 i).setSlot i (.ref (h0 + 1 + i)) = _
    rw [gouter c N h0 i, arrV_store]
    refine congrArg (arrV c N) (funext fun j => ?_)
    by_cases e : j = i
    · subst e
      simp [updV, va_rf]
    · by_cases h : j < i
      · simp [updV, e, h, Nat.lt_succ_of_lt h]
      · simp [updV, e, h, show ¬ j < i + 1 by omega]
def gLm (N0 : Nat) (L : List (Nat × Nat × Nat)) : List (Nat × Nat × Nat) := (N0, 0, N0 + 1) :: (N0, 1, N0 + 2) :: (N0, 2, N0 + 3) :: (N0, 3, N0 + 4) :: (N0, 4, N0 + 5) :: (N0, 5, N0 + 6) :: (N0, 6, N0 + 7) :: (N0, 7, N0 + 8) :: (N0, 8, N0 + 9) :: (N0, 9, N0 + 10) :: (N0, 10, N0 + 11) :: (N0, 11, N0 + 12) :: (N0, 12, N0 + 13) :: (N0, 13, N0 + 14) :: (N0, 14, N0 + 15) :: (N0, 15, N0 + 16) :: L
theorem gLm_ne {N0 x : Nat} {L : List (Nat × Nat × Nat)} (h : x ≠ N0) : grl (gLm N0 L) x = grl L x := by
  funext j
  have e : (N0 == x) = false := by simp; exact fun q => h q.symm
  simp [grl, gLm, List.find?_cons, e]
theorem gLm_at {N0 : Nat} {L : List (Nat × Nat × Nat)} (h : ∀ j, grl L N0 j = none) (j : Nat) : grl (gLm N0 L) N0 j = if j < 16 then some (N0 + 1 + j) else none := by
  by_cases hj : j < 16
  · rw [if_pos hj]
    rcases (show j = 0 ∨ j = 1 ∨ j = 2 ∨ j = 3 ∨ j = 4 ∨ j = 5 ∨ j = 6 ∨ j = 7 ∨ j = 8 ∨ j = 9 ∨ j = 10 ∨ j = 11 ∨ j = 12 ∨ j = 13 ∨ j = 14 ∨ j = 15 by omega) with rfl | rfl | rfl | rfl | rfl | rfl | rfl | rfl | rfl | rfl | rfl | rfl | rfl | rfl | rfl | rfl <;> simp [grl, gLm, List.find?_cons] <;> omega
  · rw [if_neg hj, ← h j]
    have e : ∀ i, i < 16 → (i == j) = false := fun i hi => by simp; omega
    simp [grl, gLm, List.find?_cons, e]
section GNew
variable {l : Launch} {mi mj : gMI} {d mc ms : Nat} {Q : gQt} {k n pc : Nat} {lv : List (Option Value)} {st : List Value} {S : gSt} {I : gIt} {J : gJt} {R : gRt} {f : Nat → Nat × Nat} {N0 idx : Nat}
theorem gSizeE {b : Nat} {cA : Nat → ClassId} {D : va_G} {p : Program} {e : Env} {s : State} {m : MethodId} {args : Array Value} {below : List Frame} {meth : Method} {c : Code} {H : Heap} {locs : List Loc} {ls : Array Slot} {R0 : Room} {Qq : State → Prop} {g : JFrame}
    (X : gX b cA D mi k p s m args meth c H locs ls lv S I J R) (h : H.size = b + S.1 → W p l e R0 s m args below meth c H locs k n Qq g) : W p l e R0 s m args below meth c H locs k n Qq g := by
  refine gSize X fun h1 h2 => h ?_
  by_cases h0 : S.1 = 0
  · omega
  · have := (X.2.2.1 (S.1 - 1) _ (gws_at (by omega))).lt
    dsimp only at this
    omega
theorem G_objI (hl : Cond.methodLink mi.1.cls idx objectInit ∈ gtb) {a : Nat} (hd1 : 1 ≤ d) (hro : (st.map fun v => v.category).sum ≤ 8) (hd : decode mi.2.1 pc = .ok (.invokespecial idx, 3)) (hw : Cond.instanceMethod objectInit ∈ gtb ∧ Cond.code objectInit ⟨#[0xb1]⟩ 1 none ∈ gtb) (kk : G l mi d mc ms Q k n (pc + 3) lv st S I J R) : G l mi d mc ms Q k n pc lv (.ref a :: st) S I J R := by
  intro b cA D p e s m args below meth c H locs ls X
  have hts := X.1.2.2.2.2.2.1
  refine W.objInit X.1.1 X.1.2.1 X.1.2.2.2.2.1 (hts _ hl) (hts _ hw.1) (hts _ hw.2) rfl (X.2.2.2.2.1.trans X.1.2.2.2.1.symm) (rest := st.map (gcv b)) rfl hd hd1 ?_ (kk b cA D p e s m args below meth c H locs ls X)
  have := lv_room (m := m) (pc := pc) (ls := ls) (rest := (Value.ref a :: st).map (gcv b)) (st := st.map (gcv b)) (by rw [gcat_sum]; exact hro)
  show _ + 12 ≤ 64 * d
  omega
theorem G_new {c : Nat} (hcl : Cond.classLink mi.1.cls idx (gC c) ∈ gtb) (hin : Cond.instantiable (gC c) (gnf c) ∈ gtb) (hini : Cond.initialized (gC c) ∈ gtb) (hc : c < 13) (hs : (f N0).1 = c) (hI : ∀ j, I N0 j = 0) (hJ : ∀ j, J N0 j = 0) (hR : ∀ j, R N0 j = none) (hk : k + 1 ≤ mc) (hn : n + gnf c ≤ ms) (hd : decode mi.2.1 pc = .ok (.new idx, 3)) (kk : G l mi d mc ms Q (k + 1) (n + gnf c) (pc + 3) lv (.ref N0 :: st) (N0 + 1, f) I J R) : G l mi d mc ms Q k n pc lv st (N0, f) I J R := by
  intro b cA D p e s m args below meth c0 H locs ls X
  refine gSizeE X fun hz => ?_
  have hts := X.1.2.2.2.2.2.1
  have hK := X.1.2.2.2.2.2.2.2.2.1.1
  have hKn := hK.1 c _ (gcl_at c hc)
  have hP := X.2.2.1
  have hS := X.2.2.2.1
  refine W.newcK X.1.1 X.1.2.1 X.1.2.2.2.2.1 (hts _ hcl) (hts _ hin) (hts _ hini) rfl hd hk hn hKn.2.1 hz fun H1 kC hkC e1 z1 o1 => ?_
  refine kk b cA D p e s m args below meth c0 H1 locs ls ⟨X.1, ?_, ?_, ⟨Nat.le_trans hS.1 (by rw [z1]; omega), fun x h1 h2 => (o1 x (by have := hS.1; omega)).trans (hS.2.1 x h1 h2), hS.2.2⟩, X.2.2.2.2⟩
  · have := X.2.1
    show s.heap.size + (k + 1) ≤ b + (N0 + 1)
    dsimp only at this
    omega
  · rw [gws_push]
    refine (hP.kept (fun q x hx => o1 x.1 (by have := (hP q x hx).lt; omega))).app (fun q x hx => ?_)
    have hz1 : q < 1 := (List.getElem?_eq_some_iff.mp hx).1
    rw [show q = 0 by omega] at hx
    cases hx
    rw [gce_obj (S := (N0 + 1, f)) hs hc]
    refine ⟨_, gcl_at c hc, (u_born (gty c) hts (gws_in c hc) hKn hkC e1 (gty_ok c hc)).to (fun j hj => ?_)⟩
    have hj : j < gnf c := hj
    rw [gdef_ok c hc j hj]
    simp only [vp_V, List.getD_eq_getElem?_getD, gfs_at hj, Option.getD_some]
    unfold gfv
    rw [hI, hJ, hR]
    rfl
theorem G_newarr {aty : ArrayType} {t : Nat} {ty : FieldType} {q : Nat} {x : Int32} {len : Nat} (hty : newarray.typeOf aty = ty) (hq : ∀ cA : Nat → ClassId, (gtys cA)[q]? = some (cA t, ty)) (hra : ∀ (U : State) (c : ClassId), va_RA U c ty → U.vm.findClass ("[" ++ ty.toString) = some c) (ht : 13 ≤ t) (hs : f N0 = (t, len)) (hcell : ∀ (b : Nat) (c : ClassId), vp_cell c (len, gar b I J R N0 t) = arrV c len (fun _ => defaultValue ty)) (hw : Cond.arrayClass ty ∈ gtb) (hx0 : ¬ x < 0) (hxn : x.toNatClampNeg = len) (hby : len * componentBytes ty ≤ 536870912) (hk : k + 1 ≤ mc) (hn : n + len ≤ ms) (hd : decode mi.2.1 pc = .ok (.newarray aty, 2)) (kk : G l mi d mc ms Q (k + 1) (n + len) (pc + 2) lv (.ref N0 :: st) (N0 + 1, f) I J R) : G l mi d mc ms Q k n pc lv (.int x :: st) (N0, f) I J R := by
  subst hty
  intro b cA D p e s m args below meth c0 H locs ls X
  refine gSizeE X fun hz => ?_
  have hts := X.1.2.2.2.2.2.1
  have hK := X.1.2.2.2.2.2.2.2.2.1.1
  have hP := X.2.2.1
  have hS := X.2.2.2.1
  refine va_newaK X.1.1 X.1.2.1 (hts _ hw) rfl hd rfl hx0 hxn hby hk hn hz fun H1 c1 e1 z1 o1 hAr hNm => ?_
  have hc1 : cA t = c1 := Option.some.inj ((hra _ _ (hK.2 q _ (hq cA)).2).symm.trans hNm)
  refine kk b cA D p e s m args below meth c0 H1 locs ls ⟨X.1, ?_, ?_, ⟨Nat.le_trans hS.1 (by rw [z1]; omega), fun y h1 h2 => (o1 y (by have := hS.1; omega)).trans (hS.2.1 y h1 h2), hS.2.2⟩, X.2.2.2.2⟩
  · have := X.2.1
    show s.heap.size + (k + 1) ≤ b + (N0 + 1)
    dsimp only at this
    omega
  · rw [gws_push]
    refine (hP.kept (fun q x hx => o1 x.1 (by have := (hP q x hx).lt; omega))).app (fun q x hx => ?_)
    have hz1 : q < 1 := (List.getElem?_eq_some_iff.mp hx).1
    rw [show q = 0 by omega] at hx
    cases hx
    rw [gce_arr (S := (N0 + 1, f)) hs (by omega)]
    show H1[b + N0]? = some (vp_cell _ _)
    rw [hcell, hc1]
    exact e1
theorem G_anew {x : Int32} {len : Nat} (hcl : Cond.classLink mi.1.cls idx "HopeOffice$Settlement" ∈ gtb) (hs : f N0 = (17, len)) (hR : ∀ j, R N0 j = none) (hx0 : ¬ x < 0) (hxn : x.toNatClampNeg = len) (hby : len * 4 ≤ 536870912) (hk : k + 1 ≤ mc) (hn : n + len ≤ ms) (hd : decode mi.2.1 pc = .ok (.anewarray idx, 3)) (kk : G l mi d mc ms Q (k + 1) (n + len) (pc + 3) lv (.ref N0 :: st) (N0 + 1, f) I J R) : G l mi d mc ms Q k n pc lv (.int x :: st) (N0, f) I J R := by
  subst hxn
  intro b cA D p e s m args below meth c0 H locs ls X
  refine gSizeE X fun hz => ?_
  have hts := X.1.2.2.2.2.2.1
  have hK := X.1.2.2.2.2.2.2.2.2.1.1
  have hP := X.2.2.1
  have hS := X.2.2.2.1
  refine W.anew X.1.1 X.1.2.1 X.1.2.2.2.2.1 (hts _ hcl) (va_AO.use X.1.2.2.2.2.2.2.2.2.1.2.2.1) rfl hd rfl hx0 hby hk hn fun c1 kA comp f1 f2 f3 f4 => ?_
  obtain ⟨_, _, _, _, _, f5⟩ := (hK.2 4 _ rfl).2
  have hc1 : cA 17 = c1 := Option.some.inj (f5.symm.trans f1)
  generalize hH1 : H.push ({ cls := c1, slots := Array.replicate x.toNatClampNeg .null, vm := .none } : Cell) = H1
  have z1 : H1.size = H.size + 1 := by rw [← hH1, Array.size_push]
  have e1 : H1[H.size]? = some (arrV c1 x.toNatClampNeg (fun _ => .null)) := by rw [← hH1, Array.getElem?_push_size, ← arrV_new]
  have o1 : ∀ q : Nat, q < H.size → H1[q]? = H[q]? := fun q hq => by rw [← hH1, Array.getElem?_push, if_neg (Nat.ne_of_lt hq)]
  rw [hz]
  refine kk b cA D p e s m args below meth c0 H1 locs ls ⟨X.1, ?_, ?_, ⟨Nat.le_trans hS.1 (by rw [z1]; omega), fun y h1 h2 => (o1 y (by have := hS.1; omega)).trans (hS.2.1 y h1 h2), hS.2.2⟩, X.2.2.2.2⟩
  · have := X.2.1
    show s.heap.size + (k + 1) ≤ b + (N0 + 1)
    dsimp only at this
    omega
  · rw [gws_push]
    refine (hP.kept (fun q x hx => o1 x.1 ((hP q x hx).lt))).app (fun q y hx => ?_)
    have hz1 : q < 1 := (List.getElem?_eq_some_iff.mp hx).1
    rw [show q = 0 by omega] at hx
    cases hx
    rw [gce_arr (S := (N0 + 1, f)) hs (by decide)]
    show H1[b + N0]? = some (vp_cell _ _)
    dsimp only at hz
    rw [← hz, e1, hc1]
    have : gar b I J R N0 17 = .inr (.inr (.inr (.inr (fun _ => none)))) := by
      unfold gar
      simp [hR]
    rw [this, vp_cell_q]
    rfl
theorem G_putRF {a c j r : Nat} {L : List (Nat × Nat × Nat)} (hl : gFL mi.1.cls idx c j) (ha : a < S.1) (hs : (S.2 a).1 = c) (hk : gkd (gty c j) = 2) (hf : (gT c j).2.2.2 = true) (hi : mi.1.name = "<init>") (hdc : (gT c j).1 = mi.1.cls) (hd : decode mi.2.1 pc = .ok (.putfield idx, 3)) (kk : G l mi d mc ms Q k n (pc + 3) lv st S I J (grl ((a, j, r) :: L))) : G l mi d mc ms Q k n pc lv (.ref r :: .ref a :: st) S I J (grl L) := by
  intro b cA D p e s m args below meth c' H locs ls X
  have hnf : narrow (gty c j) (.ref (b + r)) = .ref (b + r) ∧ fits (gty c j) (.ref (b + r)) = true := by
    cases ht : gty c j <;> rw [ht] at hk <;> first | exact ⟨rfl, rfl⟩ | (exact absurd hk (by decide))
  refine va_putF (ref := (gT c j).1) X.1.1 X.1.2.1 X.1.2.2.2.2.2.1 (gws_in c hl.1) (gty c) (gty_ok c hl.1) (gnm_ok c hl.1) X.1.2.2.2.2.1 X.1.2.2.2.2.2.2.2.2.1.1 X.2.2.1 gws_D X.2.2.2.1 a (gws_obj ha hs hl.1) (gcl_at c hl.1) j hl.2.1 (X.1.2.2.2.2.2.1 _ hl.2.2) (fun x h => h) hf (X.1.2.2.2.2.2.2.2.1.trans hi) hdc (gty_ok c hl.1 j hl.2.1) hnf.1 hnf.2 (by simpa [gfs] using hl.2.1) hd (fun H1 locs1 h1 h2 h3 => ?_)
  rw [gws_set (I' := I) (J' := J) (R' := gu2 (grl L) a j (some r)) ha ((gce_obj hs hl.1).trans (by rw [gfs_set (I := I) (J := J) (R := grl L) (j := j) (v := .ref (b + r)) (by rw [hk]; simp [gfv, gu2, va_rf]) (fun y t hy => by simp [gfv, gu2, hy])]; rfl)) (fun y hy => gce_ne rfl rfl (gu2_ne hy)), grl_cons] at h1
  exact kk b cA D p e s m args below meth c' H1 locs1 ls ⟨X.1, X.2.1, h1, h3, X.2.2.2.2⟩
theorem G_putRN {a c j r : Nat} {L : List (Nat × Nat × Nat)} (hl : gFL mi.1.cls idx c j) (ha : a < S.1) (hs : (S.2 a).1 = c) (hk : gkd (gty c j) = 2) (hf : (gT c j).2.2.2 = false) (hd : decode mi.2.1 pc = .ok (.putfield idx, 3)) (kk : G l mi d mc ms Q k n (pc + 3) lv st S I J (grl ((a, j, r) :: L))) : G l mi d mc ms Q k n pc lv (.ref r :: .ref a :: st) S I J (grl L) :=
  G_putR hl ha hs hk hf hd (by rw [grl_cons]; exact kk)
theorem G_aast {a len v : Nat} {i : Int32} {L : List (Nat × Nat × Nat)} (ha : a < S.1) (hs : S.2 a = (17, len)) (hv : v < S.1) (hvs : (S.2 v).1 = 9) (hin : vp_in i len) (hd : decode mi.2.1 pc = .ok (.aastore, 1)) (kk : G l mi d mc ms Q k n (pc + 1) lv st S I J (grl ((a, i.toNatClampNeg, v) :: L))) : G l mi d mc ms Q k n pc lv (.ref v :: .int i :: .ref a :: st) S I J (grl L) := by
  intro b cA D p e s m args below meth c H locs ls X
  refine va_astq X.1.1 X.1.2.1 X.1.2.2.2.2.2.2.2.2.1.1 X.2.2.1 gws_D X.2.2.2.1 a 4 v 9 (gws_arr ha hs (by decide)) rfl (gws_obj hv hvs (by decide)) (gcl_at 9 (by decide)) hin hd (fun H1 locs1 h1 h2 h3 => ?_)
  rw [gws_set (I' := I) (J' := J) (R' := gu2 (grl L) a i.toNatClampNeg (some v)) ha ((gce_arr hs (by decide)).trans (by
    refine congrArg (fun z => (Sum.inl (cA 17, len, Sum.inr (Sum.inr (Sum.inr (Sum.inr z)))) : va_E)) (funext fun y => ?_)
    show (gu2 (grl L) a i.toNatClampNeg (some v) a y).map (b + ·) = va_up (fun j => (grl L a j).map (b + ·)) i.toNatClampNeg (some (b + v)) y
    by_cases hy : y = i.toNatClampNeg <;> simp [gu2, va_up, hy])) (fun y hy => gce_ne rfl rfl (gu2_ne hy)), grl_cons] at h1
  exact kk b cA D p e s m args below meth c H1 locs1 ls ⟨X.1, X.2.1, h1, h3, X.2.2.2.2⟩
/-- a constructor's call -/
theorem G_cI {d' mc' ms' na a : Nat} {As rest st0 : List Value} {S1 : gSt} {I1 : gIt} {J1 : gJt} {R1 : gRt} (hl : Cond.methodLink mi.1.cls idx mj.1 ∈ gtb) (hi : mj.1.name = "<init>") (hr : mj.2.2.2 = none) (hj : Cond.instanceMethod mj.1 ∈ gtb ∧ Cond.initialized mj.1.cls ∈ gtb ∧ Cond.code mj.1 mj.2.1 mj.2.2.1 none ∈ gtb) (hjd : mj.1.cls ≠ "java/lang/invoke/MethodHandle" ∧ mj.1.cls ≠ "java/lang/invoke/VarHandle" ∧ (parseMethodDescriptor mj.1.desc).map (fun d => d.parameters.length) = some na) (hmL : mj.2.2.1 ≤ 45) (hst : st0 = As.reverse ++ .ref a :: rest) (hn : As.length = na) (hro : (rest.map fun v => v.category).sum ≤ 8) (hd' : d' + 1 ≤ d) (hcm : k + mc' ≤ mc) (hcs : n + ms' ≤ ms) (hd : decode mi.2.1 pc = .ok (.invokespecial idx, 3))
    (hC : Cn l mj d' mc' ms' (.ref a :: As) S I J R (fun v' S' I' J' R' => v' = none ∧ S' = S1 ∧ I' = I1 ∧ J' = J1 ∧ R' = R1)) (hz : S.1 + mc' ≤ S1.1) (kk : G l mi d mc ms Q (k + mc') (n + ms') (pc + 3) lv rest S1 I1 J1 R1) : G l mi d mc ms Q k n pc lv st0 S I J R := by
  intro b cA D p e s m args below meth c H locs ls X
  refine gSize X fun hz1 hz2 => ?_
  subst hst
  have hts := X.1.2.2.2.2.2.1
  have hfix : CallFix p m c mi.2.1 mi.2.2.1 s args gtb mi.1.cls := ⟨X.1.1, X.1.2.1, X.1.2.2.2.1, X.1.2.2.2.2.1, hts⟩
  refine gAfter (Q' := fun v' S' I' J' R' => v' = none ∧ S' = S1 ∧ I' = I1 ∧ J' = J1 ∧ R' = R1) (aa := (Value.ref (b + a) :: As.map (gcv b)).toArray) X (fun v S' I' J' R' hv => by
    obtain ⟨h1, h2, h3, h4, h5⟩ := hv
    rw [h1, h2, h3, h4, h5]
    exact ⟨hz, kk⟩) ?_
  refine va_runI (bytes := mj.2.1) (maxL := mj.2.2.1) (n := na) hfix (hC b cA D) ⟨callB_of na hts (gw_good (by rw [hr]; exact hj.2.2)) (by unfold gw; rw [hr]) rfl rfl (hts _ hj.2.1) (hts _ hl) hjd ⟨hd', ?_⟩, hi, hts _ hj.1⟩ ⟨gPc_blind, fun U hU hW => ⟨rfl, by rw [hU]; exact hz1, by rw [hU]; exact hz2, by rw [hU]; exact X.2.2.1, X.1.2.2.2.2.2.2.2.2.1.warm hW⟩⟩ rfl (by rw [List.length_map]; exact hn) X.2.2.2.2.1 ?_ ?_ hd ⟨hcm, hcs⟩
  · show 8 + (mj.2.2.1 + 11) + 64 * d' ≤ 64 * d
    omega
  · simp [gcv]
  · exact lv_room (by rw [gcat_sum]; exact hro)
theorem G_cIN {d' mc' ms' na a : Nat} {As rest st0 : List Value} {S1 : gSt} {I1 : gIt} {J1 : gJt} {R1 : gRt} {host : String} (hl : Cond.methodLinkNest mi.1.cls idx mj.1 host ∈ lw_tbl) (hi : mj.1.name = "<init>") (hr : mj.2.2.2 = none) (hj : Cond.instanceMethod mj.1 ∈ gtb ∧ Cond.initialized mj.1.cls ∈ gtb ∧ Cond.code mj.1 mj.2.1 mj.2.2.1 none ∈ gtb) (hjd : mj.1.cls ≠ "java/lang/invoke/MethodHandle" ∧ mj.1.cls ≠ "java/lang/invoke/VarHandle" ∧ (parseMethodDescriptor mj.1.desc).map (fun d => d.parameters.length) = some na) (hmL : mj.2.2.1 ≤ 45) (hst : st0 = As.reverse ++ .ref a :: rest) (hn : As.length = na) (hro : (rest.map fun v => v.category).sum ≤ 8) (hd' : d' + 1 ≤ d) (hcm : k + mc' ≤ mc) (hcs : n + ms' ≤ ms) (hd : decode mi.2.1 pc = .ok (.invokespecial idx, 3))
    (hC : Cn l mj d' mc' ms' (.ref a :: As) S I J R (fun v' S' I' J' R' => v' = none ∧ S' = S1 ∧ I' = I1 ∧ J' = J1 ∧ R' = R1)) (hz : S.1 + mc' ≤ S1.1) (kk : G l mi d mc ms Q (k + mc') (n + ms') (pc + 3) lv rest S1 I1 J1 R1) : G l mi d mc ms Q k n pc lv st0 S I J R := by
  intro b cA D p e s m args below meth c H locs ls X
  refine gSize X fun hz1 hz2 => ?_
  subst hst
  have hts := X.1.2.2.2.2.2.1
  have hfix : CallFix p m c mi.2.1 mi.2.2.1 s args gtb mi.1.cls := ⟨X.1.1, X.1.2.1, X.1.2.2.2.1, X.1.2.2.2.2.1, hts⟩
  refine gAfter (Q' := fun v' S' I' J' R' => v' = none ∧ S' = S1 ∧ I' = I1 ∧ J' = J1 ∧ R' = R1) (aa := (Value.ref (b + a) :: As.map (gcv b)).toArray) X (fun v S' I' J' R' hv => by
    obtain ⟨h1, h2, h3, h4, h5⟩ := hv
    rw [h1, h2, h3, h4, h5]
    exact ⟨hz, kk⟩) ?_
  refine va_runIN (host := host) (bytes := mj.2.1) (maxL := mj.2.2.1) (n := na) hfix (hC b cA D) ⟨va_cnB na hts (gw_good (by rw [hr]; exact hj.2.2)) (by unfold gw; rw [hr]) rfl rfl (X.1.2.2.2.2.2.2.2.2.1.2.1 _ _ _ _ hl) (hts _ hj.2.1) hjd ⟨hd', ?_⟩, hi, hts _ hj.1⟩ ⟨gPc_blind, fun U hU hW => ⟨rfl, by rw [hU]; exact hz1, by rw [hU]; exact hz2, by rw [hU]; exact X.2.2.1, X.1.2.2.2.2.2.2.2.2.1.warm hW⟩⟩ rfl (by rw [List.length_map]; exact hn) X.2.2.2.2.1 ?_ ?_ hd ⟨hcm, hcs⟩
  · show 8 + (mj.2.2.1 + 11) + 64 * d' ≤ 64 * d
    omega
  · simp [gcv]
  · exact lv_room (by rw [gcat_sum]; exact hro)
theorem G_mnew {L : List (Nat × Nat × Nat)} (hcl : Cond.classLink mi.1.cls idx "[[J" ∈ gtb) (hw : Cond.arrayClass .long ∈ gtb) (hs : f N0 = (18, 16)) (hsi : ∀ i, i < 16 → f (N0 + 1 + i) = (15, 32)) (hR : ∀ x, N0 ≤ x → ∀ j, grl L x j = none) (hJ : ∀ x, N0 ≤ x → ∀ j, J x j = 0) (hk : k + 17 ≤ mc) (hn : n + 528 ≤ ms) (hd : decode mi.2.1 pc = .ok (.multianewarray idx 2, 4)) (kk : G l mi d mc ms Q (k + 17) (n + 528) (pc + 4) lv (.ref N0 :: st) (N0 + 17, f) I J (grl (gLm N0 L))) : G l mi d mc ms Q k n pc lv (.int 32 :: .int 16 :: st) (N0, f) I J (grl L) := by
  intro b cA D p e s m args below meth c0 H locs ls X
  refine gSizeE X fun hz => ?_
  dsimp only at hz
  have hts := X.1.2.2.2.2.2.1
  have hK := X.1.2.2.2.2.2.2.2.2.1.1
  have hP := X.2.2.1
  have hS := X.2.2.2.1
  intro T hT Xs
  obtain ⟨vm₁, c1, comp, -, fA, fC, -, -, X', step⟩ := Xs.multianewarray2F (own := mi.1.cls) (index := idx) (ty := .long) X.1.1 X.1.2.2.2.2.1 (hts _ hcl) X.1.2.2.2.2.2.2.2.2.1.2.2.2 (hts _ hw) (g := F0 m pc ls (.int 32 :: .int 16 :: st.map (gcv b))) rfl (by rw [X.1.2.1]; exact hd) rfl (by decide) (by decide) (by decide) (by decide) (by decide) (by decide) (by decide) hk hn
  have hc18 : cA 18 = c1 := Option.some.inj ((hK.2 5 _ rfl).2.symm.trans fA)
  have hc15 : cA 15 = comp := Option.some.inj ((hK.2 2 _ rfl).2.symm.trans fC)
  have hTh : (T.setVm vm₁).heap = H := hT
  generalize hF : Jvm.Free.Multi.fill (T.setVm vm₁) c1 comp (Int32.toNatClampNeg 16) (Int32.toNatClampNeg 32) (defaultValue .long) (Int32.toNatClampNeg 16) = F at X' step
  obtain ⟨f1, f2, -, -⟩ := Jvm.Free.Multi.fill_facts (T.setVm vm₁) c1 comp (Int32.toNatClampNeg 16) (Int32.toNatClampNeg 32) (defaultValue .long) (Int32.toNatClampNeg 16)
  rw [hF, hTh] at f1 f2
  have hold : ∀ x : Nat, x < H.size → F.heap[x]? = H[x]? := fun x hx => by
    have := Jvm.Free.Multi.fill_old (T.setVm vm₁) c1 comp (Int32.toNatClampNeg 16) (Int32.toNatClampNeg 32) (defaultValue .long) (a := x) (by rw [hTh]; exact hx) (Int32.toNatClampNeg 16)
    rw [hF, hTh] at this
    exact this
  have hrow : ∀ j : Nat, j < 16 → F.heap[H.size + 1 + j]? = some (Jvm.Free.Multi.innerC comp 32 (defaultValue .long)) := fun j hj => by
    have := Jvm.Free.Multi.fill_inner (T.setVm vm₁) c1 comp (Int32.toNatClampNeg 16) (Int32.toNatClampNeg 32) (defaultValue .long) (Int32.toNatClampNeg 16) j hj
    rw [hF, hTh] at this
    exact this
  have hP1 : va_P D gcl (gws b cA (N0 + 17, f) I J (grl (gLm N0 L))) F.heap := by
    intro q x hx
    have hq : q < N0 + 17 := by
      have := (List.getElem?_eq_some_iff.mp hx).1
      simpa [gws] using this
    rw [gws_at (S := (N0 + 17, f)) hq] at hx
    cases hx
    by_cases h1 : q < N0
    · have h2 := hP q _ (gws_at (S := (N0, f)) h1)
      have h3 : gce b cA (N0 + 17, f) I J (grl (gLm N0 L)) q = gce b cA (N0, f) I J (grl L) q := by
        show gce b cA (N0, f) I J (grl (gLm N0 L)) q = _
        exact gce_ne rfl rfl (gLm_ne (by omega))
      rw [h3]
      exact h2.kept (hold _ (by show b + q < H.size; omega))
    · by_cases h2 : q = N0
      · subst h2
        rw [gce_arr (S := (q + 17, f)) hs (by decide)]
        show F.heap[b + q]? = some (vp_cell _ _)
        rw [← hz, f2, hc18]
        have h4 : gar b I J (grl (gLm q L)) q 18 = .inr (.inr (.inr (.inr (fun j => if j < 16 then some (H.size + 1 + j) else none)))) := by
          unfold gar
          rw [if_neg (by decide), if_pos (by decide)]
          congr 4
          funext j
          rw [gLm_at (hR q (Nat.le_refl _))]
          by_cases hj : j < 16
          · rw [if_pos hj, if_pos hj, hz]
            simp
            omega
          · rw [if_neg hj, if_neg hj]
            rfl
        rw [h4, vp_cell_q]
        exact congrArg some (gouter c1 16 H.size 16)
      · obtain ⟨i, rfl⟩ : ∃ i, q = N0 + 1 + i := ⟨q - N0 - 1, by omega⟩
        have hi : i < 16 := by omega
        rw [gce_arr (S := (N0 + 17, f)) (hsi i hi) (by decide)]
        show F.heap[b + (N0 + 1 + i)]? = some (vp_cell _ _)
        have h5 := hrow i hi
        rw [show H.size + 1 + i = b + (N0 + 1 + i) by omega] at h5
        rw [h5, hc15]
        have h6 : J (N0 + 1 + i) = fun _ => 0 := funext (hJ _ (by omega))
        have h4 : gar b I J (grl (gLm N0 L)) (N0 + 1 + i) 15 = .inr (.inl (fun _ => 0)) := by
          unfold gar
          rw [if_pos rfl, h6]
        rw [h4, vp_cell_l]
        rw [← arrV_new]
        rfl
  have hG := kk b cA D p e s m args below meth c0 F.heap locs ls ⟨X.1, ?_, hP1, ⟨Nat.le_trans hS.1 (by rw [f1]; omega), fun y h1 h2 => (hold y (by have := hS.1; omega)).trans (hS.2.1 y h1 h2), hS.2.2⟩, X.2.2.2.2⟩
  · obtain ⟨t2, a1, b1⟩ := hG F rfl X'
    refine ⟨t2, step t2 ?_, b1⟩
    rw [show T.heap.size = b + N0 by rw [hT]; exact hz]
    exact a1
  · have := X.2.1
    show s.heap.size + (k + 17) ≤ b + (N0 + 17)
    dsimp only at this
    omega
end GNew
