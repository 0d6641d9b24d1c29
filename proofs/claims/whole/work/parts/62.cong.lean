/-! ===== the parts of the invariant, where their own cells stay ===== -/
theorem gu_at {I : gIt} {a j : Nat} {v : Int32} {x y : Nat} (h : x = a ∧ y = j) : gu2 I a j v x y = v := by unfold gu2; rw [if_pos h]
theorem gu_ne {I : gIt} {a j : Nat} {v : Int32} {x y : Nat} (h : ¬ (x = a ∧ y = j)) : gu2 I a j v x y = I x y := by unfold gu2; rw [if_neg h]
section Cong
variable {I I' : gIt}
theorem iPer1_c (h : ∀ x, (2 ≤ x ∧ x ≤ 6) ∨ (151 ≤ x ∧ x ≤ 155) → I' x = I x) (hy : (I 0 14).toInt ≤ (I' 0 14).toInt) {o : Nat} (q : iPer1 I o) : iPer1 I' o := by
  unfold iPer1 at q ⊢
  rw [h 151 (by omega), h 152 (by omega), h 153 (by omega), h 154 (by omega), h 155 (by omega), h 2 (by omega), h 3 (by omega), h 4 (by omega), h 5 (by omega), h 6 (by omega)]
  obtain ⟨q1, ⟨q2, q3, q4⟩, q5, q6⟩ := q
  refine ⟨q1, ⟨q2, q3, by omega⟩, q5, ?_⟩
  rcases q6 with q6 | ⟨z1, z2, z3, z4, z5⟩
  · exact Or.inl q6
  · exact Or.inr ⟨z1, z2, z3, z4, by omega⟩
theorem iTab1_c (h : I' 10 = I 10) (h2 : I' 156 = I 156) {k i : Nat} (q : iTab1 I k i) : iTab1 I' k i := by
  unfold iTab1 at q ⊢
  rw [h, h2]
  exact q
theorem iSal1_c (h : ∀ x, (5 ≤ x ∧ x ≤ 6) ∨ (14 ≤ x ∧ x ≤ 73) ∨ (85 ≤ x ∧ x ≤ 94) ∨ (174 ≤ x ∧ x ≤ 183) → I' x = I x) (hy : (I 0 14).toInt ≤ (I' 0 14).toInt) {P P' ns ns' i : Nat} (hP : P ≤ P') (hn : ns ≤ ns') (hn2 : ns ≤ 10) (q : iSal1 I P ns i) : iSal1 I' P' ns' i := by
  unfold iSal1 at q ⊢
  rw [h 174 (by omega), h 175 (by omega), h 176 (by omega), h 177 (by omega), h 178 (by omega), h 179 (by omega), h 180 (by omega), h 181 (by omega), h 182 (by omega), h 183 (by omega), h 85 (by omega), h 86 (by omega), h 87 (by omega), h 88 (by omega), h 89 (by omega), h 90 (by omega), h 91 (by omega), h 92 (by omega), h 93 (by omega), h 94 (by omega), h 5 (by omega), h 6 (by omega)]
  obtain ⟨h1, ⟨k1, k1a, k1b⟩, ⟨k2, k2a, k2b⟩, h4, h5, h6, h7, ⟨h8, h8'⟩, h9, h10, s, hs, h11, h12⟩ := q
  refine ⟨h1, ⟨k1, by omega, k1b⟩, ⟨k2, by omega, k2b⟩, h4, h5, h6, h7, ⟨h8, by omega⟩, ?_, ?_, s, by omega, h11, by rw [h (14 + 6 * s) (by omega)]; exact h12⟩
  · rcases h9 with q | ⟨q, q'⟩
    · exact Or.inl q
    · exact Or.inr ⟨q, by omega⟩
  · rcases h10 with q | ⟨q, q'⟩
    · exact Or.inl q
    · exact Or.inr ⟨q, by omega⟩
theorem iChg1_c (h : ∀ x, (96 ≤ x ∧ x ≤ 100) ∨ (184 ≤ x ∧ x ≤ 188) → I' x = I x) {P P' ns ns' i : Nat} (hP : P ≤ P') (hn : ns ≤ ns') (q : iChg1 I P ns i) : iChg1 I' P' ns' i := by
  unfold iChg1 at q ⊢
  rw [h 184 (by omega), h 185 (by omega), h 186 (by omega), h 187 (by omega), h 188 (by omega), h 96 (by omega), h 97 (by omega), h 98 (by omega), h 99 (by omega), h 100 (by omega)]
  obtain ⟨h1, ⟨k1, k1a, k1b⟩, ⟨k2, k2a, k2b⟩, ⟨k3, k3a, k3b⟩, h5⟩ := q
  exact ⟨h1, ⟨k1, by omega, k1b⟩, ⟨k2, by omega, k2b⟩, ⟨k3, by omega, k3b⟩, h5⟩
theorem iPap1_c (h7 : I' 7 = I 7) (h8 : I' 8 = I 8) (h192 : I' 192 = I 192) (h193 : I' 193 = I 193) {nP o : Nat} (q : iPap1 I nP o) : iPap1 I' nP o := by
  unfold iPap1 at q ⊢
  rw [h7, h8, h192, h193]
  exact q
theorem iSet1_c (h : ∀ x, (14 ≤ x ∧ x ≤ 73) ∨ (157 ≤ x ∧ x ≤ 168) → I' x = I x) {P P' s : Nat} (hP : P ≤ P') (hs : s < 10) (q : iSet1 I P s) : iSet1 I' P' s := by
  unfold iSet1 at q ⊢
  rw [h 157 (by omega), h 158 (by omega), h 159 (by omega), h 160 (by omega), h 161 (by omega), h 162 (by omega), h 163 (by omega), h 164 (by omega), h 165 (by omega), h 166 (by omega), h 167 (by omega), h 168 (by omega), h (14 + 6 * s) (by omega), h (15 + 6 * s) (by omega), h (16 + 6 * s) (by omega), h (17 + 6 * s) (by omega), h (18 + 6 * s) (by omega), h (19 + 6 * s) (by omega)]
  obtain ⟨q1, ⟨q2, k, k1, k2⟩, q3⟩ := q
  exact ⟨q1, ⟨q2, k, by omega, k2⟩, q3⟩
theorem iAct1_c {w : Bool} (h1 : I' (gact w) = I (gact w)) (h2 : I' (gact w + 1) = I (gact w + 1)) (h3 : I' 189 = I 189) (h4 : I' 190 = I 190) (h5 : I' 149 60 = I 149 60) (q : iAct1 I (gact w)) : iAct1 I' (gact w) := by
  unfold iAct1 at q ⊢
  rw [h1, h2, h3, h4, h5]
  exact q
/-- scalars and unkept cells alone have changed -/
theorem iRest_c {w : Bool} {P ns nS nC nP nT : Nat} (hn : ns ≤ 10) (h : ∀ x, x ≠ 0 → x ≠ 1 → x ≠ 9 → x ≠ 11 → x ≠ 84 → x ≠ 95 → x ≠ 149 → I' x = I x) (hy : (I 0 14).toInt ≤ (I' 0 14).toInt) (h12 : I' 0 12 = I 0 12) (h59 : I' 149 59 = I 149 59) (h60 : I' 149 60 = I 149 60) (q : iRest I w P ns nS nC nP nT) : iRest I' w P ns nS nC nP nT := by
  obtain ⟨r1, r2, r3, r4, r5, r6, r7, r8, r9⟩ := q
  refine ⟨fun o ho => iPer1_c (fun x hx => h x (by omega) (by omega) (by omega) (by omega) (by omega) (by omega) (by omega)) hy (r1 o ho), fun k i hk hi => iTab1_c (h 10 (by omega) (by omega) (by omega) (by omega) (by omega) (by omega) (by omega)) (h 156 (by omega) (by omega) (by omega) (by omega) (by omega) (by omega) (by omega)) (r2 k i hk hi), fun j hj => ?_, fun i hi => iSal1_c (fun x hx => h x (by omega) (by omega) (by omega) (by omega) (by omega) (by omega) (by omega)) hy (Nat.le_refl _) (Nat.le_refl _) hn (r4 i hi), fun i hi => iChg1_c (fun x hx => h x (by omega) (by omega) (by omega) (by omega) (by omega) (by omega) (by omega)) (Nat.le_refl _) (Nat.le_refl _) (r5 i hi), fun k hk => ?_, fun o ho => iPap1_c (h 7 (by omega) (by omega) (by omega) (by omega) (by omega) (by omega) (by omega)) (h 8 (by omega) (by omega) (by omega) (by omega) (by omega) (by omega) (by omega)) (h 192 (by omega) (by omega) (by omega) (by omega) (by omega) (by omega) (by omega)) (h 193 (by omega) (by omega) (by omega) (by omega) (by omega) (by omega) (by omega)) (r7 o ho), fun s hs => iSet1_c (fun x hx => h x (by omega) (by omega) (by omega) (by omega) (by omega) (by omega) (by omega)) (Nat.le_refl _) (by omega) (r8 s hs), ?_⟩
  · rw [h 12 (by omega) (by omega) (by omega) (by omega) (by omega) (by omega) (by omega), h 150 (by omega) (by omega) (by omega) (by omega) (by omega) (by omega) (by omega)]
    exact r3 j hj
  · rw [h 192 (by omega) (by omega) (by omega) (by omega) (by omega) (by omega) (by omega), h 193 (by omega) (by omega) (by omega) (by omega) (by omega) (by omega) (by omega)]
    exact r6 k hk
  · refine ⟨by rw [h59, h12]; exact r9.1, ?_⟩
    rw [h12]
    rcases r9.2 with q | ⟨q, q2⟩
    · exact Or.inl q
    · refine Or.inr ⟨q, iAct1_c ?_ ?_ (h 189 (by omega) (by omega) (by omega) (by omega) (by omega) (by omega) (by omega)) (h 190 (by omega) (by omega) (by omega) (by omega) (by omega) (by omega) (by omega)) h60 q2⟩
      · cases w <;> exact h _ (by decide) (by decide) (by decide) (by decide) (by decide) (by decide) (by decide)
      · cases w <;> exact h _ (by decide) (by decide) (by decide) (by decide) (by decide) (by decide) (by decide)
end Cong
