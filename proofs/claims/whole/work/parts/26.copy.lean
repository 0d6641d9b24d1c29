/-! ===== arraycopy of 32 longs ===== -/
def gcp (J : gJt) (a0 a : Nat) : gJt := fun x y => if x = a ∧ y < 32 then J a0 y else J x y
theorem gcp_w : Cond.native arraycopyName ∈ gtb ∧ Cond.static arraycopyName ∈ gtb ∧ Cond.initialized "java/lang/System" ∈ gtb := ⟨gtb_in 928 (by decide +kernel) (by decide +kernel), gtb_in 927 (by decide +kernel) (by decide +kernel), gtb_in 104 (by decide +kernel) (by decide +kernel)⟩
section GCo
variable {l : Launch} {mi : gMI} {d mc ms : Nat} {Q : gQt} {k n pc : Nat} {lv : List (Option Value)} {st : List Value} {S : gSt} {I : gIt} {J : gJt} {R : gRt} {idx : Nat}
theorem G_copyJ {a0 a : Nat} (hl : Cond.methodLink mi.1.cls idx arraycopyName ∈ gtb) (ha0 : a0 < S.1) (hs0 : S.2 a0 = (15, 32)) (ha : a < S.1) (hs : S.2 a = (15, 32)) (hd1 : 1 ≤ d) (hN : 8 + (nativeFrameWords "java/lang/System" "arraycopy" 5 + 11) ≤ 64 * d) (hro : (st.map fun v => v.category).sum ≤ 8) (hd : decode mi.2.1 pc = .ok (.invokestatic idx, 3)) (kk : G l mi d mc ms Q k n (pc + 3) lv st S I (gcp J a0 a) R) : G l mi d mc ms Q k n pc lv (.int 32 :: .int 0 :: .ref a :: .int 0 :: .ref a0 :: st) S I J R := by
  intro b cA D p e s m args below meth c H locs ls X
  have hts := X.1.2.2.2.2.2.1
  refine va_copyl (ty := .long) X.1.1 X.1.2.1 (X.1.2.2.2.1.trans X.2.2.2.2.1.symm) X.1.2.2.2.2.1 (hts _ hl) (hts _ gcp_w.1) (hts _ gcp_w.2.1) (hts _ gcp_w.2.2) X.1.2.2.2.2.2.2.2.2.1.1 X.2.2.1 gws_D X.2.2.2.1 a0 a 2 2 (gws_arr ha0 hs0 (by decide)) (gws_arr ha hs (by decide)) rfl rfl rfl (by decide) (by decide) (by decide) (by decide) (by decide) (fun i _ => rfl) hd1 (by rw [gcat_sum]; show _ ≤ 64 * d; omega) hd (fun H1 locs1 h1 h2 h3 => ?_)
  rw [gws_set (I' := I) (J' := gcp J a0 a) (R' := R) ha ((gce_arr hs (by decide)).trans (by
    refine congrArg (fun z => (Sum.inl (cA 15, 32, Sum.inr (Sum.inl z)) : va_E)) (funext fun y => ?_)
    show gcp J a0 a a y = va_cpy (J a0) (J a) 0 0 32 y
    simp [gcp, va_cpy])) (fun y hy => gce_ne rfl (by funext z; simp [gcp, hy]) rfl)] at h1
  exact kk b cA D p e s m args below meth c H1 locs1 ls ⟨X.1, X.2.1, h1, h3, X.2.2.2.2⟩
end GCo
theorem grow_s {a b : Nat} (h : gisa a) (hr : ∃ i, i < 16 ∧ b = a + 4 + i) : gS0.2 b = (15, 32) := by
  obtain ⟨i, hi, rfl⟩ := hr
  exact gisa_as h hi
theorem grow_l {a b : Nat} (h : gisa a) (hr : ∃ i, i < 16 ∧ b = a + 4 + i) : b < gS0.1 := by
  obtain ⟨i, hi, rfl⟩ := hr
  exact gisa_al h hi
