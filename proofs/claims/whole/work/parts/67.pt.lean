/-! ===== one entry of a list at a time ===== -/
section Pt
variable {I I' : gIt}
theorem iPer1_p {o : Nat} (h : ∀ r, (2 ≤ r ∧ r ≤ 6) ∨ (151 ≤ r ∧ r ≤ 155) → I' r o = I r o) (hy : (I 0 14).toInt ≤ (I' 0 14).toInt) (q : iPer1 I o) : iPer1 I' o := by
  unfold iPer1 at q ⊢
  rw [h 151 (by omega), h 152 (by omega), h 153 (by omega), h 154 (by omega), h 155 (by omega), h 2 (by omega), h 3 (by omega), h 4 (by omega), h 5 (by omega), h 6 (by omega)]
  obtain ⟨q1, ⟨q2, q3, q4⟩, q5, q6⟩ := q
  refine ⟨q1, ⟨q2, q3, by omega⟩, q5, ?_⟩
  rcases q6 with q6 | ⟨z1, z2, z3, z4, z5⟩
  · exact Or.inl q6
  · exact Or.inr ⟨z1, z2, z3, z4, by omega⟩
theorem iSal1_p {P P' ns ns' i : Nat} (h : ∀ r, (85 ≤ r ∧ r ≤ 94) ∨ (174 ≤ r ∧ r ≤ 183) → I' r i = I r i) (hd : ∀ k, k < 16 → (I' 5 k = I 5 k ∧ I' 6 k = I 6 k) ∨ I' 5 k = -1) (hset : ∀ s, s < ns → I' (14 + 6 * s) 6 = I (14 + 6 * s) 6) (hy : (I 0 14).toInt ≤ (I' 0 14).toInt) (hP : P ≤ P') (hn : ns ≤ ns') (q : iSal1 I P ns i) : iSal1 I' P' ns' i := by
  unfold iSal1 at q ⊢
  rw [h 174 (by omega), h 175 (by omega), h 176 (by omega), h 177 (by omega), h 178 (by omega), h 179 (by omega), h 180 (by omega), h 181 (by omega), h 182 (by omega), h 183 (by omega), h 85 (by omega), h 86 (by omega), h 87 (by omega), h 88 (by omega), h 89 (by omega), h 90 (by omega), h 91 (by omega), h 92 (by omega), h 93 (by omega), h 94 (by omega)]
  obtain ⟨h1, ⟨k1, k1a, k1b⟩, ⟨k2, k2a, k2b⟩, h4, h5, h6, h7, ⟨h8, h8'⟩, h9, h10, s, hs, h11, h12⟩ := q
  refine ⟨h1, ⟨k1, by omega, k1b⟩, ⟨k2, by omega, k2b⟩, h4, h5, h6, h7, ⟨h8, by omega⟩, ?_, ?_, s, by omega, h11, fun k hk16 hk => ?_⟩
  · rcases h9 with q | ⟨q, q'⟩
    · exact Or.inl q
    · exact Or.inr ⟨q, by omega⟩
  · rcases h10 with q | ⟨q, q'⟩
    · exact Or.inl q
    · exact Or.inr ⟨q, by omega⟩
  · rw [hset s hs] at hk
    rcases hd k hk16 with ⟨d1, d2⟩ | d1
    · rw [d1, d2]
      exact h12 k hk16 hk
    · exact Or.inl d1
theorem iChg1_p {P P' ns ns' i : Nat} (h : ∀ r, (96 ≤ r ∧ r ≤ 100) ∨ (184 ≤ r ∧ r ≤ 188) → I' r i = I r i) (hP : P ≤ P') (hn : ns ≤ ns') (q : iChg1 I P ns i) : iChg1 I' P' ns' i := by
  unfold iChg1 at q ⊢
  rw [h 184 (by omega), h 185 (by omega), h 186 (by omega), h 187 (by omega), h 188 (by omega), h 96 (by omega), h 97 (by omega), h 98 (by omega), h 99 (by omega), h 100 (by omega)]
  obtain ⟨h1, ⟨k1, k1a, k1b⟩, ⟨k2, k2a, k2b⟩, ⟨k3, k3a, k3b⟩, h5⟩ := q
  exact ⟨h1, ⟨k1, by omega, k1b⟩, ⟨k2, by omega, k2b⟩, ⟨k3, by omega, k3b⟩, h5⟩
/-- the rest of the invariant, out of its parts: those of lists that have changed are told, the others by cells that stay -/
theorem iRest_g {w : Bool} {P P' ns nS nS' nC nC' nP nP' nT : Nat} (hn : ns ≤ 10) (hP : P ≤ P') (q : iRest I w P ns nS nC nP nT)
    (hset : ∀ x, (14 ≤ x ∧ x ≤ 73) ∨ (157 ≤ x ∧ x ≤ 168) → I' x = I x) (h12 : I' 12 = I 12) (h150 : I' 150 = I 150) (h10 : I' 10 = I 10) (h156 : I' 156 = I 156)
    (ha1 : I' (gact w) = I (gact w)) (ha2 : I' (gact w + 1) = I (gact w + 1)) (h189 : I' 189 = I 189) (h190 : I' 190 = I 190) (h60 : I' 149 60 = I 149 60) (h59 : I' 149 59 = I 149 59) (h0 : I' 0 12 = I 0 12)
    (g1 : ∀ o, o < P' → iPer1 I' o) (g4 : ∀ i, i < nS' → iSal1 I' P' ns i) (g5 : ∀ i, i < nC' → iChg1 I' P' ns i) (g6 : ∀ k, k < nP' → (∃ o, o < P' ∧ I' 192 k = nI o) ∧ 0 ≤ (I' 193 k).toInt) (g7 : ∀ o, o < P' → iPap1 I' nP' o) : iRest I' w P' ns nS' nC' nP' nT := by
  obtain ⟨r1, r2, r3, r4, r5, r6, r7, r8, r9⟩ := q
  refine ⟨g1, fun k i hk hi => iTab1_c h10 h156 (r2 k i hk hi), fun j hj => ?_, g4, g5, g6, g7, fun s hs => iSet1_c hset hP (by omega) (r8 s hs), by rw [h59, h0]; exact r9.1, ?_⟩
  · rw [h12, h150]
    exact r3 j hj
  · rw [h0]
    rcases r9.2 with q | ⟨q, q2⟩
    · exact Or.inl q
    · exact Or.inr ⟨q, iAct1_c ha1 ha2 h189 h190 h60 q2⟩
end Pt
theorem EE14 : EE_14 gInv := by
  intro I J w x1 x2 hI
  obtain ⟨P, ns, nS, nC, nP, nT, hs, hr⟩ := id hI
  obtain ⟨⟨y1, y2, y3⟩, b1, b2, ⟨a4, a4', a4''⟩, b5⟩ := id hs
  rcases ix_or x1 (P := nS) (by omega) with ⟨k, hk, rfl⟩ | hx
  · have hsal := hr.2.2.2.1 k hk
    obtain ⟨⟨e1, e2, e3, e4, e5, e6, e7, e8, e9, e10⟩, s2, s3, s4, s5, s6, s7, s8, s9, s10, s11⟩ := id hsal
    have g : gin (nI k) 40 = true := gin_nI (by omega) (by omega)
    have hc : (nI k).toNatClampNeg = k := nI_clamp (by omega)
    by_cases c1 : I 92 k = -1
    · by_cases c2 : 0 ≤ x2.toInt ∧ x2.toInt ≤ 527039
      · refine EEw (g := fun I => p_X12_notice I (nI k) x2) 1 (gu2 (gu2 I 92 k (I 0 14)) 93 k x2) (gu2 (gu2 (gu2 (gu2 I 92 k (I 0 14)) 93 k x2) 181 k (I 0 14)) 182 k x2) ?_ ?_ ?_
        · unfold p_X11_notice gL
          rw [gB_y _ (x8_has I a4'' a4 _) (in_y hk (by omega)), if_neg (by decide), gck_t g, hc, if_pos c1]
          simp only [Int32.lt_iff_toInt_lt, Int32.reduceToInt, gck_t g]
          rw [if_neg (by omega), if_pos (by omega)]
        · show p_X12_notice (gu2 (gu2 I 92 k (I 0 14)) 93 k x2) (nI k) x2 = _
          unfold p_X12_notice gL
          have f1 : gu2 (gu2 I 92 k (I 0 14)) 93 k x2 149 5 = nI nS := a4'
          have f2 : gu2 (gu2 I 92 k (I 0 14)) 93 k x2 149 2 = I 0 14 := y1
          have f3 : gu2 (gu2 I 92 k (I 0 14)) 93 k x2 181 k = -1 := e8.trans c1
          rw [gB_y _ (x12_isSale _ a4'' f1 _) (in_y hk (by omega)), if_neg (by decide), gck_t g, hc, f3, if_pos rfl, lies_y _ (by simp only [i32_toInt64, Int64.reduceToInt]; omega), if_neg (by decide), f2]
          simp only [gck_t g]
        · refine ⟨P, ns, nS, nC, nP, nT, ⟨⟨y1, y2, y3⟩, b1, b2, ⟨a4, a4', a4''⟩, b5⟩, iRest_g (I := I) b2.2.2 (Nat.le_refl _) hr (fun x hx => by rw [gu2_ne (by omega), gu2_ne (by omega), gu2_ne (by omega), gu2_ne (by omega)]) rfl rfl rfl rfl (by cases w <;> rfl) (by cases w <;> rfl) rfl rfl rfl rfl rfl hr.1 (fun i hi => ?_) hr.2.2.2.2.1 hr.2.2.2.2.2.1 hr.2.2.2.2.2.2.1⟩
          by_cases hik : i = k
          · subst hik
            have t : ∀ r, ¬ r = 92 → ¬ r = 93 → ¬ r = 181 → ¬ r = 182 → gu2 (gu2 (gu2 (gu2 I 92 i (I 0 14)) 93 i x2) 181 i (I 0 14)) 182 i x2 r = I r := fun r q1 q2 q3 q4 => by rw [gu2_ne q4, gu2_ne q3, gu2_ne q2, gu2_ne q1]
            unfold iSal1
            rw [t 174 (by decide) (by decide) (by decide) (by decide), t 175 (by decide) (by decide) (by decide) (by decide), t 176 (by decide) (by decide) (by decide) (by decide), t 177 (by decide) (by decide) (by decide) (by decide), t 178 (by decide) (by decide) (by decide) (by decide), t 179 (by decide) (by decide) (by decide) (by decide), t 180 (by decide) (by decide) (by decide) (by decide), t 183 (by decide) (by decide) (by decide) (by decide), t 85 (by decide) (by decide) (by decide) (by decide), t 86 (by decide) (by decide) (by decide) (by decide), t 87 (by decide) (by decide) (by decide) (by decide), t 88 (by decide) (by decide) (by decide) (by decide), t 89 (by decide) (by decide) (by decide) (by decide), t 90 (by decide) (by decide) (by decide) (by decide), t 91 (by decide) (by decide) (by decide) (by decide), t 94 (by decide) (by decide) (by decide) (by decide), t 0 (by decide) (by decide) (by decide) (by decide), t 5 (by decide) (by decide) (by decide) (by decide), t 6 (by decide) (by decide) (by decide) (by decide)]
            obtain ⟨s, hs1, hs2, hs3⟩ := s11
            refine ⟨⟨e1, e2, e3, e4, e5, e6, e7, ?_, ?_, e10⟩, s2, s3, s4, s5, s6, s7, s8, Or.inr ?_, s10, s, hs1, hs2, ?_⟩
            · simp [gu2]
            · simp [gu2]
            · have : gu2 (gu2 (gu2 (gu2 I 92 i (I 0 14)) 93 i x2) 181 i (I 0 14)) 182 i x2 92 i = I 0 14 := by simp [gu2]
              rw [this]
              omega
            · rw [t (14 + 6 * s) (by omega) (by omega) (by omega) (by omega)]
              exact hs3
          · exact iSal1_p (I := I) (fun r hr => by rw [gu_ne (by omega), gu_ne (by omega), gu_ne (by omega), gu_ne (by omega)]) (fun k _ => Or.inl ⟨rfl, rfl⟩) (fun s hs => by rw [gu_ne (by omega), gu_ne (by omega), gu_ne (by omega), gu_ne (by omega)]) (Int.le_refl _) (Nat.le_refl _) (Nat.le_refl _) (hr.2.2.2.1 i hi)
      · refine EEw (g := fun I => p_X12_notice I (nI k) x2) 0 I I ?_ ?_ hI
        · unfold p_X11_notice gL
          rw [gB_y _ (x8_has I a4'' a4 _) (in_y hk (by omega)), if_neg (by decide), gck_t g, hc, if_pos c1]
          simp only [Int32.lt_iff_toInt_lt, Int32.reduceToInt]
          by_cases d : x2.toInt < 0
          · rw [if_pos d]
          · rw [if_neg d, if_neg (by omega)]
        · show p_X12_notice I (nI k) x2 = _
          unfold p_X12_notice gL
          rw [gB_y _ (x12_isSale _ a4'' a4' _) (in_y hk (by omega)), if_neg (by decide), gck_t g, hc, e8, if_pos c1, lies_n _ (by simp only [i32_toInt64, Int64.reduceToInt]; omega), if_pos rfl]
    · refine EEw (g := fun I => p_X12_notice I (nI k) x2) 0 I I ?_ ?_ hI
      · unfold p_X11_notice gL
        rw [gB_y _ (x8_has I a4'' a4 _) (in_y hk (by omega)), if_neg (by decide), gck_t g, hc, if_neg c1]
      · show p_X12_notice I (nI k) x2 = _
        unfold p_X12_notice gL
        rw [gB_y _ (x12_isSale _ a4'' a4' _) (in_y hk (by omega)), if_neg (by decide), gck_t g, hc, e8, if_neg c1]
  · refine EEw (g := fun I => p_X12_notice I x1 x2) 0 I I ?_ ?_ hI
    · unfold p_X11_notice gL
      rw [gB_n _ (x8_has I a4'' a4 _) hx, if_pos rfl]
    · show p_X12_notice I x1 x2 = _
      unfold p_X12_notice gL
      rw [gB_n _ (x12_isSale _ a4'' a4' _) hx, if_pos rfl]
