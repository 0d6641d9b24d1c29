/-! ===== Math's three ===== -/
theorem gm_min : Cond.static Lib.Math.min.name ∈ gtb ∧ Cond.initialized "java/lang/Math" ∈ gtb ∧ Cond.code Lib.Math.min.name Lib.Math.min.code 2 (some .int) ∈ gtb := by
  have h1 := vJ9_min_7cf53
  exact ⟨h1.1.1, h1.1.2.1, h1.1.2.2⟩
theorem gm_max : Cond.static Lib.Math.max.name ∈ gtb ∧ Cond.initialized "java/lang/Math" ∈ gtb ∧ Cond.code Lib.Math.max.name Lib.Math.max.code 2 (some .int) ∈ gtb := by
  have h1 := vJ9_max_7cf53
  exact ⟨h1.1.1, h1.1.2.1, h1.1.2.2⟩
theorem gm_minL : Cond.static Lib.MathLoose.min_long.x ∈ gtb ∧ Cond.initialized "java/lang/Math" ∈ gtb ∧ Cond.code Lib.MathLoose.min_long.x Lib.MathLoose.min_long.code 4 (some .long) ∈ gtb := by
  have h1 := vJ9_min_f86c9
  exact ⟨h1.1.1, h1.1.2.1, h1.1.2.2⟩
def gmin (x y : Int32) : Int32 := if y < x then y else x
def gmax (x y : Int32) : Int32 := if x < y then y else x
def gminL (x y : Int64) : Int64 := if y < x then y else x
section GMa
variable {l : Launch} {mi : gMI} {d mc ms : Nat} {Q : gQt} {k n pc : Nat} {lv : List (Option Value)} {st : List Value} {S : gSt} {I : gIt} {J : gJt} {R : gRt} {idx : Nat}
theorem G_mmin {x y : Int32} (hl : Cond.methodLink mi.1.cls idx yJ9_min_7cf53 ∈ gtb) (hd1 : 1 ≤ d) (hro : (st.map fun v => v.category).sum ≤ 8) (hk : k ≤ mc) (hn : n ≤ ms) (hd : decode mi.2.1 pc = .ok (.invokestatic idx, 3)) (kk : G l mi d mc ms Q k n (pc + 3) lv (.int (gmin x y) :: st) S I J R) : G l mi d mc ms Q k n pc lv (.int y :: .int x :: st) S I J R :=
  fun b cA D p e s m args below meth c H locs ls X => va_mmin X.1.1 X.1.2.1 (X.1.2.2.2.1.trans X.2.2.2.2.1.symm) X.1.2.2.2.2.1 (X.1.2.2.2.2.2.1 _ hl) (X.1.2.2.2.2.2.1 _ gm_min.1) (X.1.2.2.2.2.2.1 _ gm_min.2.1) (X.1.2.2.2.2.2.1 _ gm_min.2.2) hd1 (by rw [gcat_sum]; show _ ≤ 64 * d; omega) hk hn hd (kk b cA D p e s m args below meth c H locs ls X)
theorem G_mmax {x y : Int32} (hl : Cond.methodLink mi.1.cls idx yJ9_max_7cf53 ∈ gtb) (hd1 : 1 ≤ d) (hro : (st.map fun v => v.category).sum ≤ 8) (hk : k ≤ mc) (hn : n ≤ ms) (hd : decode mi.2.1 pc = .ok (.invokestatic idx, 3)) (kk : G l mi d mc ms Q k n (pc + 3) lv (.int (gmax x y) :: st) S I J R) : G l mi d mc ms Q k n pc lv (.int y :: .int x :: st) S I J R :=
  fun b cA D p e s m args below meth c H locs ls X => va_mmax X.1.1 X.1.2.1 (X.1.2.2.2.1.trans X.2.2.2.2.1.symm) X.1.2.2.2.2.1 (X.1.2.2.2.2.2.1 _ hl) (X.1.2.2.2.2.2.1 _ gm_max.1) (X.1.2.2.2.2.2.1 _ gm_max.2.1) (X.1.2.2.2.2.2.1 _ gm_max.2.2) hd1 (by rw [gcat_sum]; show _ ≤ 64 * d; omega) hk hn hd (kk b cA D p e s m args below meth c H locs ls X)
theorem G_mminL {x y : Int64} (hl : Cond.methodLink mi.1.cls idx yJ9_min_f86c9 ∈ gtb) (hd1 : 1 ≤ d) (hro : (st.map fun v => v.category).sum ≤ 8) (hk : k ≤ mc) (hn : n ≤ ms) (hd : decode mi.2.1 pc = .ok (.invokestatic idx, 3)) (kk : G l mi d mc ms Q k n (pc + 3) lv (.long (gminL x y) :: st) S I J R) : G l mi d mc ms Q k n pc lv (.long y :: .long x :: st) S I J R :=
  fun b cA D p e s m args below meth c H locs ls X => va_mmin_long X.1.1 X.1.2.1 (X.1.2.2.2.1.trans X.2.2.2.2.1.symm) X.1.2.2.2.2.1 (X.1.2.2.2.2.2.1 _ hl) (X.1.2.2.2.2.2.1 _ gm_minL.1) (X.1.2.2.2.2.2.1 _ gm_minL.2.1) (X.1.2.2.2.2.2.1 _ gm_minL.2.2) hd1 (by rw [gcat_sum]; show _ ≤ 64 * d; omega) hk hn hd (kk b cA D p e s m args below meth c H locs ls X)
end GMa
/-! ===== stores, with the locals behind them ===== -/
section GSt
variable {l : Launch} {mi : gMI} {d mc ms : Nat} {Q : gQt} {k n pc : Nat} {lv : List (Option Value)} {st : List Value} {S : gSt} {I : gIt} {J : gJt} {R : gRt}
theorem S_istore_n {j : Fin 4} {i : Nat} {x : Int32} (lv' : List (Option Value)) (hd : decode mi.2.1 pc = .ok (.istore_n j, 1)) (hi : (j : Nat) = i) (hn : i < mi.2.2.1) (hl : gst1 lv i (.int x) = lv') (kk : G l mi d mc ms Q k n (pc + 1) lv' st S I J R) : G l mi d mc ms Q k n pc lv (.int x :: st) S I J R := by subst hl; exact G_istore_n hd hi hn kk
theorem S_istore {i : Nat} {x : Int32} (lv' : List (Option Value)) (hd : decode mi.2.1 pc = .ok (.istore i, 2)) (hn : i < mi.2.2.1) (hl : gst1 lv i (.int x) = lv') (kk : G l mi d mc ms Q k n (pc + 2) lv' st S I J R) : G l mi d mc ms Q k n pc lv (.int x :: st) S I J R := by subst hl; exact G_istore hd hn kk
theorem S_lstore_n {j : Fin 4} {i : Nat} {x : Int64} (lv' : List (Option Value)) (hd : decode mi.2.1 pc = .ok (.lstore_n j, 1)) (hi : (j : Nat) = i) (hn : i + 1 < mi.2.2.1) (hl : gst2 lv i (.long x) = lv') (kk : G l mi d mc ms Q k n (pc + 1) lv' st S I J R) : G l mi d mc ms Q k n pc lv (.long x :: st) S I J R := by subst hl; exact G_lstore_n hd hi hn kk
theorem S_lstore {i : Nat} {x : Int64} (lv' : List (Option Value)) (hd : decode mi.2.1 pc = .ok (.lstore i, 2)) (hn : i + 1 < mi.2.2.1) (hl : gst2 lv i (.long x) = lv') (kk : G l mi d mc ms Q k n (pc + 2) lv' st S I J R) : G l mi d mc ms Q k n pc lv (.long x :: st) S I J R := by subst hl; exact G_lstore hd hn kk
theorem S_astore_n {j : Fin 4} {i : Nat} {x : Nat} (lv' : List (Option Value)) (hd : decode mi.2.1 pc = .ok (.astore_n j, 1)) (hi : (j : Nat) = i) (hn : i < mi.2.2.1) (hl : gst1 lv i (.ref x) = lv') (kk : G l mi d mc ms Q k n (pc + 1) lv' st S I J R) : G l mi d mc ms Q k n pc lv (.ref x :: st) S I J R := by subst hl; exact G_astore_n hd hi hn kk
theorem S_astore {i : Nat} {x : Nat} (lv' : List (Option Value)) (hd : decode mi.2.1 pc = .ok (.astore i, 2)) (hn : i < mi.2.2.1) (hl : gst1 lv i (.ref x) = lv') (kk : G l mi d mc ms Q k n (pc + 2) lv' st S I J R) : G l mi d mc ms Q k n pc lv (.ref x :: st) S I J R := by subst hl; exact G_astore hd hn kk
theorem S_astore_nN {j : Fin 4} {i : Nat} (lv' : List (Option Value)) (hd : decode mi.2.1 pc = .ok (.astore_n j, 1)) (hi : (j : Nat) = i) (hn : i < mi.2.2.1) (hl : gst1 lv i .null = lv') (kk : G l mi d mc ms Q k n (pc + 1) lv' st S I J R) : G l mi d mc ms Q k n pc lv (.null :: st) S I J R := by subst hl; exact G_astore_nN hd hi hn kk
theorem S_astoreN {i : Nat} (lv' : List (Option Value)) (hd : decode mi.2.1 pc = .ok (.astore i, 2)) (hn : i < mi.2.2.1) (hl : gst1 lv i .null = lv') (kk : G l mi d mc ms Q k n (pc + 2) lv' st S I J R) : G l mi d mc ms Q k n pc lv (.null :: st) S I J R := by subst hl; exact G_astoreN hd hn kk
theorem S_iinc {i : Nat} {z : Int} {x v : Int32} (lv' : List (Option Value)) (hd : decode mi.2.1 pc = .ok (.iinc i z, 3)) (h : lv[i]? = some (some (.int x))) (hv : Int32.ofInt z = v) (hn : i < mi.2.2.1) (hl : gst1 lv i (.int (x + v)) = lv') (kk : G l mi d mc ms Q k n (pc + 3) lv' st S I J R) : G l mi d mc ms Q k n pc lv st S I J R := by subst hl; exact G_iinc hd h hv hn kk
end GSt
/-! ===== calls of methods that make nothing ===== -/
section GCc
variable {l : Launch} {mi mj : gMI} {d mc ms : Nat} {Q : gQt} {k n pc : Nat} {lv : List (Option Value)} {I I1 : gIt} {J J1 : gJt} {R R1 : gRt} {d' na idx a c0 : Nat} {As rest st0 : List Value} {V : Option Value} {P : Prop}
theorem G_cV (hl : Cond.methodLink mi.1.cls idx mj.1 ∈ gtb) (hj : gMV mj na) (ha : a < gS0.1) (hs : (gS0.2 a).1 = c0) (hc0 : c0 < 13) (hcc : gC c0 = mj.1.cls) (hst : st0 = As.reverse ++ .ref a :: rest) (hn : As.length = na) (hro : (rest.map fun v => v.category).sum ≤ 8) (hd' : d' + 1 ≤ d) (hcm : k ≤ mc) (hcs : n ≤ ms) (hd : decode mi.2.1 pc = .ok (.invokevirtual idx, 3))
    (hC : Cn l mj d' 0 0 (.ref a :: As) gS0 I J R (fun v' S' I' J' R' => v' = V ∧ S' = gS0 ∧ I' = I1 ∧ J' = J1 ∧ R' = R1)) (kk : G l mi d mc ms Q k n (pc + 3) lv (V.toList ++ rest) gS0 I1 J1 R1) : G l mi d mc ms Q k n pc lv st0 gS0 I J R := by
  refine G_callV hl hj ha hs hc0 hcc hst hn hro hd' hcm hcs hd hC (fun v S' I' J' R' hv => ?_)
  obtain ⟨h1, h2, h3, h4, h5⟩ := hv
  rw [h1, h2, h3, h4, h5]
  exact ⟨Nat.le_refl _, kk⟩
theorem G_cS (hl : Cond.methodLink mi.1.cls idx mj.1 ∈ gtb) (hj : gMS mj na) (hst : st0 = As.reverse ++ rest) (hn : As.length = na) (hro : (rest.map fun v => v.category).sum ≤ 8) (hd' : d' + 1 ≤ d) (hcm : k ≤ mc) (hcs : n ≤ ms) (hd : decode mi.2.1 pc = .ok (.invokestatic idx, 3))
    (hC : Cn l mj d' 0 0 As gS0 I J R (fun v' S' I' J' R' => v' = V ∧ S' = gS0 ∧ I' = I1 ∧ J' = J1 ∧ R' = R1)) (kk : G l mi d mc ms Q k n (pc + 3) lv (V.toList ++ rest) gS0 I1 J1 R1) : G l mi d mc ms Q k n pc lv st0 gS0 I J R := by
  refine G_callS hl hj hst hn hro hd' hcm hcs hd hC (fun v S' I' J' R' hv => ?_)
  obtain ⟨h1, h2, h3, h4, h5⟩ := hv
  rw [h1, h2, h3, h4, h5]
  exact ⟨Nat.le_refl _, kk⟩
theorem G_cVO (hl : Cond.methodLink mi.1.cls idx mj.1 ∈ gtb) (hj : gMV mj na) (ha : a < gS0.1) (hs : (gS0.2 a).1 = c0) (hc0 : c0 < 13) (hcc : gC c0 = mj.1.cls) (hst : st0 = As.reverse ++ .ref a :: rest) (hn : As.length = na) (hro : (rest.map fun v => v.category).sum ≤ 8) (hd' : d' + 1 ≤ d) (hcm : k ≤ mc) (hcs : n ≤ ms) (hd : decode mi.2.1 pc = .ok (.invokevirtual idx, 3))
    (hC : Cn l mj d' 0 0 (.ref a :: As) gS0 I J R (fun v' S' I' J' R' => v' = V ∧ S' = gS0 ∧ I' = I1 ∧ J' = J1 ∧ R' = R1 ∧ P)) (kk : P → G l mi d mc ms Q k n (pc + 3) lv (V.toList ++ rest) gS0 I1 J1 R1) : G l mi d mc ms Q k n pc lv st0 gS0 I J R := by
  refine G_callV hl hj ha hs hc0 hcc hst hn hro hd' hcm hcs hd hC (fun v S' I' J' R' hv => ?_)
  obtain ⟨h1, h2, h3, h4, h5, h6⟩ := hv
  rw [h1, h2, h3, h4, h5]
  exact ⟨Nat.le_refl _, kk h6⟩
end GCc
