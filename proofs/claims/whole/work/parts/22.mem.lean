/-! ===== fields and arrays ===== -/
section GMm
variable {l : Launch} {mi : gMI} {d mc ms : Nat} {Q : gQt} {k n pc : Nat} {lv : List (Option Value)} {st : List Value} {S : gSt} {I : gIt} {J : gJt} {R : gRt}
theorem gce_obj {b : Nat} {cA : Nat → ClassId} {a c : Nat} (hs : (S.2 a).1 = c) (hc : c < 13) : gce b cA S I J R a = .inr (c, gfs b I J R a c) := by
  subst hs
  simp [gce, hc]
theorem gce_arr {b : Nat} {cA : Nat → ClassId} {a t N : Nat} (hs : S.2 a = (t, N)) (ht : ¬ t < 13) : gce b cA S I J R a = .inl (cA t, N, gar b I J R a t) := by
  simp [gce, hs, ht]
theorem gws_obj {b : Nat} {cA : Nat → ClassId} {a c : Nat} (ha : a < S.1) (hs : (S.2 a).1 = c) (hc : c < 13) : (gws b cA S I J R)[a]? = some (b + a, .inr (c, gfs b I J R a c)) := by
  rw [gws_at ha, gce_obj hs hc]
theorem gws_arr {b : Nat} {cA : Nat → ClassId} {a t N : Nat} (ha : a < S.1) (hs : S.2 a = (t, N)) (ht : ¬ t < 13) : (gws b cA S I J R)[a]? = some (b + a, .inl (cA t, N, gar b I J R a t)) := by
  rw [gws_at ha, gce_arr hs ht]
theorem gfs_at {b a c j : Nat} (hj : j < gnf c) : (gfs b I J R a c)[j]? = some (gfv b I J R a (gkd (gty c j)) j) := by
  simp [gfs, hj]
theorem gfs_set {b a c j : Nat} {I' : gIt} {J' : gJt} {R' : gRt} {v : Value} (hj : gfv b I' J' R' a (gkd (gty c j)) j = v) (ho : ∀ x t, x ≠ j → gfv b I' J' R' a t x = gfv b I J R a t x) : gfs b I' J' R' a c = (gfs b I J R a c).set j v := by
  apply List.ext_getElem?
  intro x
  rw [List.getElem?_set]
  by_cases e : j = x
  · subst e
    rw [if_pos rfl]
    by_cases h : j < gnf c
    · simp [gfs, h, hj]
    · simp [gfs, h]
  · rw [if_neg e]
    simp only [gfs, List.getElem?_map]
    cases hr : (List.range (gnf c))[x]? with
    | none => rfl
    | some y =>
      have : y = x := by
        simp only [List.getElem?_eq_some_iff, List.getElem_range] at hr
        obtain ⟨_, h2⟩ := hr
        exact h2.symm
      subst this
      simp [ho y _ (fun q => e q.symm)]
theorem gu2_row {α : Type} {f : Nat → Nat → α} {a j x : Nat} {v : α} (h : x ≠ j) : gu2 f a j v a x = f a x := by simp [gu2, h]
theorem gu2_at {α : Type} {f : Nat → Nat → α} {a j : Nat} {v : α} : gu2 f a j v a j = v := by simp [gu2]
theorem G_getI {idx a c j : Nat} (hl : gFL mi.1.cls idx c j) (ha : a < S.1) (hs : (S.2 a).1 = c) (hk : gkd (gty c j) = 0) (hd : decode mi.2.1 pc = .ok (.getfield idx, 3)) (kk : G l mi d mc ms Q k n (pc + 3) lv (.int (I a j) :: st) S I J R) : G l mi d mc ms Q k n pc lv (.ref a :: st) S I J R := by
  intro b cA D p e s m args below meth c' H locs ls X
  exact va_get (ref := (gT c j).1) X.1.1 X.1.2.1 X.1.2.2.2.2.2.1 (gws_in c hl.1) X.1.2.2.2.2.1 X.1.2.2.2.2.2.2.2.2.1.1 X.2.2.1 a (gws_obj ha hs hl.1) (gcl_at c hl.1) j hl.2.1 (X.1.2.2.2.2.2.1 _ hl.2.2) (fun x h => h) (v := .int (I a j)) (by rw [gfs_at hl.2.1, hk]; rfl) hd (kk b cA D p e s m args below meth c' H locs ls X)
theorem G_getJ {idx a c j : Nat} (hl : gFL mi.1.cls idx c j) (ha : a < S.1) (hs : (S.2 a).1 = c) (hk : gkd (gty c j) = 1) (hd : decode mi.2.1 pc = .ok (.getfield idx, 3)) (kk : G l mi d mc ms Q k n (pc + 3) lv (.long (J a j) :: st) S I J R) : G l mi d mc ms Q k n pc lv (.ref a :: st) S I J R := by
  intro b cA D p e s m args below meth c' H locs ls X
  exact va_get (ref := (gT c j).1) X.1.1 X.1.2.1 X.1.2.2.2.2.2.1 (gws_in c hl.1) X.1.2.2.2.2.1 X.1.2.2.2.2.2.2.2.2.1.1 X.2.2.1 a (gws_obj ha hs hl.1) (gcl_at c hl.1) j hl.2.1 (X.1.2.2.2.2.2.1 _ hl.2.2) (fun x h => h) (v := .long (J a j)) (by rw [gfs_at hl.2.1, hk]; rfl) hd (kk b cA D p e s m args below meth c' H locs ls X)
theorem G_getR {idx a c j r : Nat} (hl : gFL mi.1.cls idx c j) (ha : a < S.1) (hs : (S.2 a).1 = c) (hk : gkd (gty c j) = 2) (hr : R a j = some r) (hd : decode mi.2.1 pc = .ok (.getfield idx, 3)) (kk : G l mi d mc ms Q k n (pc + 3) lv (.ref r :: st) S I J R) : G l mi d mc ms Q k n pc lv (.ref a :: st) S I J R := by
  intro b cA D p e s m args below meth c' H locs ls X
  exact va_get (ref := (gT c j).1) X.1.1 X.1.2.1 X.1.2.2.2.2.2.1 (gws_in c hl.1) X.1.2.2.2.2.1 X.1.2.2.2.2.2.2.2.2.1.1 X.2.2.1 a (gws_obj ha hs hl.1) (gcl_at c hl.1) j hl.2.1 (X.1.2.2.2.2.2.1 _ hl.2.2) (fun x h => h) (v := .ref (b + r)) (by rw [gfs_at hl.2.1, hk]; unfold gfv; rw [hr]; rfl) hd (kk b cA D p e s m args below meth c' H locs ls X)
theorem G_putI {idx a c j : Nat} {x : Int32} (hl : gFL mi.1.cls idx c j) (ha : a < S.1) (hs : (S.2 a).1 = c) (hk : gkd (gty c j) = 0) (hf : (gT c j).2.2.2 = false) (hn : narrow (gty c j) (.int x) = .int x ∧ fits (gty c j) (.int x) = true) (hd : decode mi.2.1 pc = .ok (.putfield idx, 3)) (kk : G l mi d mc ms Q k n (pc + 3) lv st S (gu2 I a j x) J R) : G l mi d mc ms Q k n pc lv (.int x :: .ref a :: st) S I J R := by
  intro b cA D p e s m args below meth c' H locs ls X
  refine va_put (ref := (gT c j).1) X.1.1 X.1.2.1 X.1.2.2.2.2.2.1 (gws_in c hl.1) (gty c) (gty_ok c hl.1) (gnm_ok c hl.1) X.1.2.2.2.2.1 X.1.2.2.2.2.2.2.2.2.1.1 X.2.2.1 gws_D X.2.2.2.1 a (gws_obj ha hs hl.1) (gcl_at c hl.1) j hl.2.1 (X.1.2.2.2.2.2.1 _ hl.2.2) (fun x h => h) hf (gty_ok c hl.1 j hl.2.1) hn.1 hn.2 (by simpa [gfs] using hl.2.1) hd (fun H1 locs1 h1 h2 h3 => ?_)
  rw [gws_set (I' := gu2 I a j x) (J' := J) (R' := R) ha ((gce_obj hs hl.1).trans (by rw [gfs_set (I := I) (J := J) (R := R) (j := j) (v := .int x) (by rw [hk]; simp [gfv, gu2]) (fun y t hy => by simp [gfv, gu2, hy])]; rfl)) (fun y hy => gce_ne (gu2_ne hy) rfl rfl)] at h1
  exact kk b cA D p e s m args below meth c' H1 locs1 ls ⟨X.1, X.2.1, h1, h3, X.2.2.2.2⟩
theorem G_putJ {idx a c j : Nat} {x : Int64} (hl : gFL mi.1.cls idx c j) (ha : a < S.1) (hs : (S.2 a).1 = c) (hk : gty c j = .long) (hf : (gT c j).2.2.2 = false) (hd : decode mi.2.1 pc = .ok (.putfield idx, 3)) (kk : G l mi d mc ms Q k n (pc + 3) lv st S I (gu2 J a j x) R) : G l mi d mc ms Q k n pc lv (.long x :: .ref a :: st) S I J R := by
  intro b cA D p e s m args below meth c' H locs ls X
  refine va_put (ref := (gT c j).1) X.1.1 X.1.2.1 X.1.2.2.2.2.2.1 (gws_in c hl.1) (gty c) (gty_ok c hl.1) (gnm_ok c hl.1) X.1.2.2.2.2.1 X.1.2.2.2.2.2.2.2.2.1.1 X.2.2.1 gws_D X.2.2.2.1 a (gws_obj ha hs hl.1) (gcl_at c hl.1) j hl.2.1 (X.1.2.2.2.2.2.1 _ hl.2.2) (fun x h => h) hf (gty_ok c hl.1 j hl.2.1) (by rw [hk]; rfl) (by rw [hk]; rfl) (by simpa [gfs] using hl.2.1) hd (fun H1 locs1 h1 h2 h3 => ?_)
  rw [gws_set (I' := I) (J' := gu2 J a j x) (R' := R) ha ((gce_obj hs hl.1).trans (by rw [gfs_set (I := I) (J := J) (R := R) (j := j) (v := .long x) (by rw [hk]; simp [gfv, gu2, gkd]) (fun y t hy => by simp [gfv, gu2, hy])]; rfl)) (fun y hy => gce_ne rfl (gu2_ne hy) rfl)] at h1
  exact kk b cA D p e s m args below meth c' H1 locs1 ls ⟨X.1, X.2.1, h1, h3, X.2.2.2.2⟩
theorem G_putR {idx a c j r : Nat} (hl : gFL mi.1.cls idx c j) (ha : a < S.1) (hs : (S.2 a).1 = c) (hk : gkd (gty c j) = 2) (hf : (gT c j).2.2.2 = false) (hd : decode mi.2.1 pc = .ok (.putfield idx, 3)) (kk : G l mi d mc ms Q k n (pc + 3) lv st S I J (gu2 R a j (some r))) : G l mi d mc ms Q k n pc lv (.ref r :: .ref a :: st) S I J R := by
  intro b cA D p e s m args below meth c' H locs ls X
  have hnf : narrow (gty c j) (.ref (b + r)) = .ref (b + r) ∧ fits (gty c j) (.ref (b + r)) = true := by
    cases ht : gty c j <;> rw [ht] at hk <;> first | exact ⟨rfl, rfl⟩ | (exact absurd hk (by decide))
  refine va_put (ref := (gT c j).1) X.1.1 X.1.2.1 X.1.2.2.2.2.2.1 (gws_in c hl.1) (gty c) (gty_ok c hl.1) (gnm_ok c hl.1) X.1.2.2.2.2.1 X.1.2.2.2.2.2.2.2.2.1.1 X.2.2.1 gws_D X.2.2.2.1 a (gws_obj ha hs hl.1) (gcl_at c hl.1) j hl.2.1 (X.1.2.2.2.2.2.1 _ hl.2.2) (fun x h => h) hf (gty_ok c hl.1 j hl.2.1) hnf.1 hnf.2 (by simpa [gfs] using hl.2.1) hd (fun H1 locs1 h1 h2 h3 => ?_)
  rw [gws_set (I' := I) (J' := J) (R' := gu2 R a j (some r)) ha ((gce_obj hs hl.1).trans (by rw [gfs_set (I := I) (J := J) (R := R) (j := j) (v := .ref (b + r)) (by rw [hk]; simp [gfv, gu2, va_rf]) (fun y t hy => by simp [gfv, gu2, hy])]; rfl)) (fun y hy => gce_ne rfl rfl (gu2_ne hy))] at h1
  exact kk b cA D p e s m args below meth c' H1 locs1 ls ⟨X.1, X.2.1, h1, h3, X.2.2.2.2⟩
-- arrays
theorem G_iald {a N : Nat} {i : Int32} (ha : a < S.1) (hs : S.2 a = (14, N)) (hin : vp_in i N) (hd : decode mi.2.1 pc = .ok (.iaload, 1)) (kk : G l mi d mc ms Q k n (pc + 1) lv (.int (I a i.toNatClampNeg) :: st) S I J R) : G l mi d mc ms Q k n pc lv (.int i :: .ref a :: st) S I J R :=
  fun b cA D p e s m args below meth c H locs ls X => va_iald X.1.1 X.1.2.1 X.1.2.2.2.2.2.2.2.2.1.1 X.2.2.1 a 1 (gws_arr ha hs (by decide)) rfl hin hd (kk b cA D p e s m args below meth c H locs ls X)
theorem G_bald {a N : Nat} {i : Int32} (ha : a < S.1) (hs : S.2 a = (13, N)) (hin : vp_in i N) (hd : decode mi.2.1 pc = .ok (.baload, 1)) (kk : G l mi d mc ms Q k n (pc + 1) lv (.int (I a i.toNatClampNeg) :: st) S I J R) : G l mi d mc ms Q k n pc lv (.int i :: .ref a :: st) S I J R :=
  fun b cA D p e s m args below meth c H locs ls X => va_bald X.1.1 X.1.2.1 X.1.2.2.2.2.2.2.2.2.1.1 X.2.2.1 a 0 (gws_arr ha hs (by decide)) rfl hin hd (kk b cA D p e s m args below meth c H locs ls X)
theorem G_zald {a N : Nat} {i : Int32} (ha : a < S.1) (hs : S.2 a = (16, N)) (hin : vp_in i N) (hd : decode mi.2.1 pc = .ok (.baload, 1)) (kk : G l mi d mc ms Q k n (pc + 1) lv (.int (I a i.toNatClampNeg) :: st) S I J R) : G l mi d mc ms Q k n pc lv (.int i :: .ref a :: st) S I J R :=
  fun b cA D p e s m args below meth c H locs ls X => va_zald X.1.1 X.1.2.1 X.1.2.2.2.2.2.2.2.2.1.1 X.2.2.1 a 3 (gws_arr ha hs (by decide)) rfl hin hd (kk b cA D p e s m args below meth c H locs ls X)
theorem G_lald {a N : Nat} {i : Int32} (ha : a < S.1) (hs : S.2 a = (15, N)) (hin : vp_in i N) (hd : decode mi.2.1 pc = .ok (.laload, 1)) (kk : G l mi d mc ms Q k n (pc + 1) lv (.long (J a i.toNatClampNeg) :: st) S I J R) : G l mi d mc ms Q k n pc lv (.int i :: .ref a :: st) S I J R :=
  fun b cA D p e s m args below meth c H locs ls X => va_lald X.1.1 X.1.2.1 X.1.2.2.2.2.2.2.2.2.1.1 X.2.2.1 a 2 (gws_arr ha hs (by decide)) rfl hin hd (kk b cA D p e s m args below meth c H locs ls X)
theorem G_aald {a N r : Nat} {i : Int32} (ha : a < S.1) (hs : S.2 a = (17, N)) (hin : vp_in i N) (hr : R a i.toNatClampNeg = some r) (hd : decode mi.2.1 pc = .ok (.aaload, 1)) (kk : G l mi d mc ms Q k n (pc + 1) lv (.ref r :: st) S I J R) : G l mi d mc ms Q k n pc lv (.int i :: .ref a :: st) S I J R :=
  fun b cA D p e s m args below meth c H locs ls X => va_aldq X.1.1 X.1.2.1 X.1.2.2.2.2.2.2.2.2.1.1 X.2.2.1 a 4 (gws_arr ha hs (by decide)) rfl hin hd (by
    have h := kk b cA D p e s m args below meth c H locs ls X
    rw [hr]
    exact h)
theorem G_aaldJ {a N r : Nat} {i : Int32} (ha : a < S.1) (hs : S.2 a = (18, N)) (hin : vp_in i N) (hr : R a i.toNatClampNeg = some r) (hd : decode mi.2.1 pc = .ok (.aaload, 1)) (kk : G l mi d mc ms Q k n (pc + 1) lv (.ref r :: st) S I J R) : G l mi d mc ms Q k n pc lv (.int i :: .ref a :: st) S I J R := by
  intro b cA D p e s m args below meth c H locs ls X
  have hlt : i.toNatClampNeg < N := Nat.not_le.mp fun q => hin (Or.inr q)
  have hP := X.2.2.1 a _ (gws_arr ha hs (by decide))
  exact W.aald (v := .ref (b + r)) (ty := .array .long) X.1.1 X.1.2.1 hP ((X.1.2.2.2.2.2.2.2.2.1.1.2 5 _ rfl).1 N (fun j => va_rf ((R a j).map (b + ·)))) rfl (fun q => by cases q) (by show ¬ (i < 0 ∨ (arrV _ _ _).slots.size ≤ _); rw [arrV_size]; exact hin) (by show (arrV _ _ _).slots[_]? = _; rw [arrV_read _ _ hlt]; simp only [hr]; rfl) rfl rfl hd (kk b cA D p e s m args below meth c H locs ls X)
theorem gu2_upd {f : gIt} {a j : Nat} {v : Int32} : gu2 f a j v a = upd (f a) j v := by
  funext y
  simp [gu2, upd]
theorem gu2_updL {f : gJt} {a j : Nat} {v : Int64} : gu2 f a j v a = vp_updL (f a) j v := by
  funext y
  simp [gu2, vp_updL]
theorem G_iast {a N : Nat} {i x : Int32} (ha : a < S.1) (hs : S.2 a = (14, N)) (hin : vp_in i N) (hd : decode mi.2.1 pc = .ok (.iastore, 1)) (kk : G l mi d mc ms Q k n (pc + 1) lv st S (gu2 I a i.toNatClampNeg x) J R) : G l mi d mc ms Q k n pc lv (.int x :: .int i :: .ref a :: st) S I J R := by
  intro b cA D p e s m args below meth c H locs ls X
  refine va_iast X.1.1 X.1.2.1 X.1.2.2.2.2.2.2.2.2.1.1 X.2.2.1 gws_D X.2.2.2.1 a 1 (gws_arr ha hs (by decide)) rfl hin hd (fun H1 locs1 h1 h2 h3 => ?_)
  rw [gws_set (I' := gu2 I a i.toNatClampNeg x) (J' := J) (R' := R) ha ((gce_arr hs (by decide)).trans (by show _ = _; simp only [gar]; rw [gu2_upd]; rfl)) (fun y hy => gce_ne (gu2_ne hy) rfl rfl)] at h1
  exact kk b cA D p e s m args below meth c H1 locs1 ls ⟨X.1, X.2.1, h1, h3, X.2.2.2.2⟩
theorem G_bast {a N : Nat} {i x : Int32} (ha : a < S.1) (hs : S.2 a = (13, N)) (hin : vp_in i N) (hd : decode mi.2.1 pc = .ok (.bastore, 1)) (kk : G l mi d mc ms Q k n (pc + 1) lv st S (gu2 I a i.toNatClampNeg (vp_nar .byte x)) J R) : G l mi d mc ms Q k n pc lv (.int x :: .int i :: .ref a :: st) S I J R := by
  intro b cA D p e s m args below meth c H locs ls X
  refine va_bast X.1.1 X.1.2.1 X.1.2.2.2.2.2.2.2.2.1.1 X.2.2.1 gws_D X.2.2.2.1 a 0 (gws_arr ha hs (by decide)) rfl hin hd (fun H1 locs1 h1 h2 h3 => ?_)
  rw [gws_set (I' := gu2 I a i.toNatClampNeg (vp_nar .byte x)) (J' := J) (R' := R) ha ((gce_arr hs (by decide)).trans (by show _ = _; simp only [gar]; rw [gu2_upd]; rfl)) (fun y hy => gce_ne (gu2_ne hy) rfl rfl)] at h1
  exact kk b cA D p e s m args below meth c H1 locs1 ls ⟨X.1, X.2.1, h1, h3, X.2.2.2.2⟩
theorem G_zast {a N : Nat} {i x : Int32} (ha : a < S.1) (hs : S.2 a = (16, N)) (hin : vp_in i N) (hd : decode mi.2.1 pc = .ok (.bastore, 1)) (kk : G l mi d mc ms Q k n (pc + 1) lv st S (gu2 I a i.toNatClampNeg (vp_nar .boolean x)) J R) : G l mi d mc ms Q k n pc lv (.int x :: .int i :: .ref a :: st) S I J R := by
  intro b cA D p e s m args below meth c H locs ls X
  refine va_zast X.1.1 X.1.2.1 X.1.2.2.2.2.2.2.2.2.1.1 X.2.2.1 gws_D X.2.2.2.1 a 3 (gws_arr ha hs (by decide)) rfl hin hd (fun H1 locs1 h1 h2 h3 => ?_)
  rw [gws_set (I' := gu2 I a i.toNatClampNeg (vp_nar .boolean x)) (J' := J) (R' := R) ha ((gce_arr hs (by decide)).trans (by show _ = _; simp only [gar]; rw [gu2_upd]; rfl)) (fun y hy => gce_ne (gu2_ne hy) rfl rfl)] at h1
  exact kk b cA D p e s m args below meth c H1 locs1 ls ⟨X.1, X.2.1, h1, h3, X.2.2.2.2⟩
theorem G_last {a N : Nat} {i : Int32} {x : Int64} (ha : a < S.1) (hs : S.2 a = (15, N)) (hin : vp_in i N) (hd : decode mi.2.1 pc = .ok (.lastore, 1)) (kk : G l mi d mc ms Q k n (pc + 1) lv st S I (gu2 J a i.toNatClampNeg x) R) : G l mi d mc ms Q k n pc lv (.long x :: .int i :: .ref a :: st) S I J R := by
  intro b cA D p e s m args below meth c H locs ls X
  refine va_last X.1.1 X.1.2.1 X.1.2.2.2.2.2.2.2.2.1.1 X.2.2.1 gws_D X.2.2.2.1 a 2 (gws_arr ha hs (by decide)) rfl hin hd (fun H1 locs1 h1 h2 h3 => ?_)
  rw [gws_set (I' := I) (J' := gu2 J a i.toNatClampNeg x) (R' := R) ha ((gce_arr hs (by decide)).trans (by show _ = _; simp only [gar]; rw [gu2_updL]; rfl)) (fun y hy => gce_ne rfl (gu2_ne hy) rfl)] at h1
  exact kk b cA D p e s m args below meth c H1 locs1 ls ⟨X.1, X.2.1, h1, h3, X.2.2.2.2⟩
theorem G_alen {a t N : Nat} (ha : a < S.1) (hs : S.2 a = (t, N)) (h13 : 13 ≤ t) (h18 : t ≤ 18) (hd : decode mi.2.1 pc = .ok (.arraylength, 1)) (kk : G l mi d mc ms Q k n (pc + 1) lv (.int (nI N) :: st) S I J R) : G l mi d mc ms Q k n pc lv (.ref a :: st) S I J R := by
  intro b cA D p e s m args below meth c H locs ls X
  obtain ⟨ty, hty⟩ : ∃ ty, (gtys cA)[t - 13]? = some (cA t, ty) := by
    rcases (show t = 13 ∨ t = 14 ∨ t = 15 ∨ t = 16 ∨ t = 17 ∨ t = 18 by omega) with rfl | rfl | rfl | rfl | rfl | rfl <;> exact ⟨_, rfl⟩
  exact va_alen X.1.1 X.1.2.1 X.1.2.2.2.2.2.2.2.2.1.1 X.2.2.1 a (t - 13) (gws_arr ha hs (by omega)) hty rfl hd (kk b cA D p e s m args below meth c H locs ls X)
-- returns
theorem G_ret {o : Option Value} (hq : Q o S I J R) {b : Nat} {cA : Nat → ClassId} {D : va_G} {p : Program} {s : State} {m : MethodId} {args : Array Value} {meth : Method} {c : Code} {H : Heap} {locs : List Loc} {ls : Array Slot} (X : gX b cA D mi k p s m args meth c H locs ls lv S I J R) : ∀ t : State, t.heap = H → s.WarmedH t.vm → gPost b cA D Q args s (.returned (o.map (gcv b))) t :=
  fun t ht _ => ⟨⟨o, S, I, J, R, rfl, hq, by rw [ht]; exact X.2.2.1⟩, X.2.2.2.1.F ht⟩
theorem G_iret {v : Int32} (hr : mi.2.2.2 = some .int) (hk : k ≤ mc) (hn : n ≤ ms) (hd : decode mi.2.1 pc = .ok (.ireturn, 1)) (hq : Q (some (.int v)) S I J R) : G l mi d mc ms Q k n pc lv [.int v] S I J R :=
  fun b cA D p e s m args below meth c H locs ls X => W.widen hk hn (W.iret X.1.1 X.1.2.1 (X.1.2.2.1.trans hr) (G_ret hq X) X.2.2.2.1.2.2 hd X.1.2.2.2.2.2.2.1)
theorem G_zret {v : Int32} (hr : mi.2.2.2 = some .boolean) (hv : v = 0 ∨ v = 1) (hk : k ≤ mc) (hn : n ≤ ms) (hd : decode mi.2.1 pc = .ok (.ireturn, 1)) (hq : Q (some (.int v)) S I J R) : G l mi d mc ms Q k n pc lv [.int v] S I J R :=
  fun b cA D p e s m args below meth c H locs ls X => W.widen hk hn (W.zret X.1.1 X.1.2.1 (X.1.2.2.1.trans hr) (by rcases hv with rfl | rfl <;> rfl) (G_ret hq X) X.2.2.2.1.2.2 hd X.1.2.2.2.2.2.2.1)
theorem G_lret {v : Int64} (hr : mi.2.2.2 = some .long) (hk : k ≤ mc) (hn : n ≤ ms) (hd : decode mi.2.1 pc = .ok (.lreturn, 1)) (hq : Q (some (.long v)) S I J R) : G l mi d mc ms Q k n pc lv [.long v] S I J R :=
  fun b cA D p e s m args below meth c H locs ls X => W.widen hk hn (W.lret X.1.1 X.1.2.1 (X.1.2.2.1.trans hr) (G_ret hq X) X.2.2.2.1.2.2 hd X.1.2.2.2.2.2.2.1)
theorem G_vret (hr : mi.2.2.2 = none) (hk : k ≤ mc) (hn : n ≤ ms) (hd : decode mi.2.1 pc = .ok (.return_, 1)) (hq : Q none S I J R) : G l mi d mc ms Q k n pc lv [] S I J R :=
  fun b cA D p e s m args below meth c H locs ls X => W.widen hk hn (W.vret X.1.1 X.1.2.1 (X.1.2.2.1.trans hr) (G_ret hq X) X.2.2.2.1.2.2 hd X.1.2.2.2.2.2.2.1)
theorem G_aret {v : Nat} {C : String} (hr : mi.2.2.2 = some (.object C)) (hk : k ≤ mc) (hn : n ≤ ms) (hd : decode mi.2.1 pc = .ok (.areturn, 1)) (hq : Q (some (.ref v)) S I J R) : G l mi d mc ms Q k n pc lv [.ref v] S I J R :=
  fun b cA D p e s m args below meth c H locs ls X => W.widen hk hn (W.aret X.1.1 X.1.2.1 (X.1.2.2.1.trans hr) (Or.inl ⟨C, rfl⟩) (Or.inr ⟨_, rfl⟩) (G_ret hq X) X.2.2.2.1.2.2 hd X.1.2.2.2.2.2.2.1)
theorem G_aretN {C : String} (hr : mi.2.2.2 = some (.object C)) (hk : k ≤ mc) (hn : n ≤ ms) (hd : decode mi.2.1 pc = .ok (.areturn, 1)) (hq : Q (some .null) S I J R) : G l mi d mc ms Q k n pc lv [.null] S I J R :=
  fun b cA D p e s m args below meth c H locs ls X => W.widen hk hn (W.aret X.1.1 X.1.2.1 (X.1.2.2.1.trans hr) (Or.inl ⟨C, rfl⟩) (Or.inl rfl) (G_ret hq X) X.2.2.2.1.2.2 hd X.1.2.2.2.2.2.2.1)
end GMm
