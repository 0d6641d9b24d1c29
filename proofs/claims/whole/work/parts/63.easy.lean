/-! ===== the plain calls ===== -/
theorem EEw {J : gJt} {w : Bool} {f : Option (Int32 × gIt)} {g : gIt → Option (Int32 × gIt)} (r : Int32) (I1 I2 : gIt) (h1 : f = some (r, I1)) (h2 : g I1 = some (r, I2)) (h3 : gInv I2 J w) : ∃ v1, f = some v1 ∧ ∃ v2, g v1.2 = some v2 ∧ v1.1 = v2.1 ∧ gInv v2.2 J w := ⟨_, h1, _, h2, rfl, h3⟩
theorem EEr {α : Type} {I : gIt} {J : gJt} {w : Bool} {f g : Option α} (r : α) (h1 : f = some r) (h2 : g = some r) (h3 : gInv I J w) : ∃ v1, f = some v1 ∧ ∃ v2, g = some v2 ∧ v1 = v2 ∧ gInv I J w := ⟨_, h1, _, h2, rfl, h3⟩
theorem lies_y {α : Type} {a b c : Int64} (f : Int32 → Option α) (h : b.toInt ≤ a.toInt ∧ a.toInt ≤ c.toInt) : gB (p_X12_lies a b c) f = f 1 := by
  rw [x12_lies, if_pos h]
  rfl
theorem lies_n {α : Type} {a b c : Int64} (f : Int32 → Option α) (h : ¬ (b.toInt ≤ a.toInt ∧ a.toInt ≤ c.toInt)) : gB (p_X12_lies a b c) f = f 0 := by
  rw [x12_lies, if_neg h]
  rfl
theorem EE0 : EE_0 gInv := by
  intro I J w x1 hI
  obtain ⟨P, ns, nS, nC, nP, nT, hs, hr⟩ := id hI
  obtain ⟨⟨a1, a2, a3⟩, hs'⟩ := id hs
  by_cases c : (I 0 14).toInt ≤ x1.toInt ∧ x1.toInt ≤ 1999
  · refine EEw (g := fun I => p_X12_now I x1) 1 (gu2 I 0 14 x1) (gu2 (gu2 I 0 14 x1) 149 2 x1) ?_ ?_ ?_
    · unfold p_X11_now gL
      simp only [Int32.lt_iff_toInt_lt, Int32.le_iff_toInt_le, Int32.reduceToInt]
      rw [if_neg (by omega), if_pos (by omega)]
    · show p_X12_now (gu2 I 0 14 x1) x1 = _
      unfold p_X12_now gL gB
      have e : gu2 I 0 14 x1 149 2 = I 149 2 := rfl
      rw [x12_lies, i32_toInt64, i32_toInt64, e, a1, if_pos (by simp; omega)]
      rfl
    · refine ⟨P, ns, nS, nC, nP, nT, ⟨⟨rfl, show 1700 ≤ x1.toInt by omega, show x1.toInt ≤ 1999 by omega⟩, hs'⟩, iRest_c (I := I) hs.2.2.1.2.2 (fun x g0 _ _ _ _ _ g6 => ?_) (show (I 0 14).toInt ≤ x1.toInt by omega) rfl rfl rfl hr⟩
      rw [gu2_ne g6, gu2_ne g0]
  · refine EEw (g := fun I => p_X12_now I x1) 0 I I ?_ ?_ hI
    · unfold p_X11_now gL
      simp only [Int32.lt_iff_toInt_lt, Int32.le_iff_toInt_le, Int32.reduceToInt]
      by_cases c1 : x1.toInt < (I 0 14).toInt
      · rw [if_pos c1]
      · rw [if_neg c1, if_neg (by omega)]
    · show p_X12_now I x1 = _
      unfold p_X12_now gL gB
      rw [x12_lies, i32_toInt64, i32_toInt64, a1, if_neg (by simp; omega)]
      rfl
theorem EE5 : EE_5 gInv := by
  intro I J w x1 x2 hI
  obtain ⟨P, ns, nS, nC, nP, nT, hs, hr⟩ := id hI
  obtain ⟨a1, a2, a3, a4, a5, a6, a7, a8, a9⟩ := id hs
  by_cases c0 : x1.toInt = 0 ∧ 0 ≤ x2.toInt ∧ x2.toInt ≤ 20
  · refine EEw (g := fun I => p_X12_number I x1 x2) 1 (gu2 I 9 1 x2) (gu2 (gu2 I 9 1 x2) 149 8 x2) ?_ ?_ ⟨P, ns, nS, nC, nP, nT, ⟨a1, a2, a3, a4, a5, a6, a7, ⟨rfl, c0.2.1, c0.2.2⟩, a9⟩, iRest_c (I := I) a3.2.2 (fun x _ _ g2 _ _ _ g6 => by rw [gu2_ne g6, gu2_ne g2]) (Int.le_refl _) rfl rfl rfl hr⟩
    · unfold p_X11_number gL
      simp only [Int32.lt_iff_toInt_lt, ← Int32.toInt_inj, Int32.reduceToInt]
      rw [if_pos (by omega), if_neg (by omega), if_neg (by omega)]
    · show p_X12_number (gu2 I 9 1 x2) x1 x2 = _
      have e0 : x1 = 0 := Int32.toInt_inj.mp c0.1
      unfold p_X12_number gL
      rw [lies_y _ (by simp only [i32_toInt64, Int64.reduceToInt]; omega), if_neg (by decide), if_pos e0]
      show gB (p_X12_lies _ _ _) _ = _
      rw [lies_y _ (by simp only [i32_toInt64, Int64.reduceToInt]; omega), if_neg (by decide), if_pos e0]
  · by_cases c1 : x1.toInt = 1 ∧ 0 ≤ x2.toInt ∧ x2.toInt ≤ 50
    · refine EEw (g := fun I => p_X12_number I x1 x2) 1 (gu2 I 0 15 x2) (gu2 (gu2 I 0 15 x2) 149 9 x2) ?_ ?_ ⟨P, ns, nS, nC, nP, nT, ⟨a1, a2, a3, a4, a5, a6, a7, a8, ⟨rfl, c1.2.1, c1.2.2⟩⟩, iRest_c (I := I) a3.2.2 (fun x g0 _ _ _ _ _ g6 => by rw [gu2_ne g6, gu2_ne g0]) (Int.le_refl _) rfl rfl rfl hr⟩
      · unfold p_X11_number gL
        simp only [Int32.lt_iff_toInt_lt, ← Int32.toInt_inj, Int32.reduceToInt]
        rw [if_neg (by omega), if_pos (by omega), if_neg (by omega), if_neg (by omega)]
      · show p_X12_number (gu2 I 0 15 x2) x1 x2 = _
        have e0 : ¬ x1 = 0 := fun q => by rw [q] at c1; exact absurd c1.1 (by decide)
        unfold p_X12_number gL
        rw [lies_y _ (by simp only [i32_toInt64, Int64.reduceToInt]; omega), if_neg (by decide), if_neg e0]
        show gB (p_X12_lies _ _ _) _ = _
        rw [lies_y _ (by simp only [i32_toInt64, Int64.reduceToInt]; omega), if_neg (by decide), if_neg e0]
    · refine EEw (g := fun I => p_X12_number I x1 x2) 0 I I ?_ ?_ hI
      · unfold p_X11_number gL
        simp only [Int32.lt_iff_toInt_lt, ← Int32.toInt_inj, Int32.reduceToInt]
        by_cases d0 : x1.toInt = 0
        · by_cases d1 : x2.toInt < 0
          · rw [if_pos d0, if_pos d1, if_neg (by omega)]
          · rw [if_pos d0, if_neg d1, if_pos (by omega), if_neg (by omega)]
        · by_cases d1 : x1.toInt = 1
          · by_cases d2 : x2.toInt < 0
            · rw [if_neg d0, if_pos d1, if_pos d2]
            · rw [if_neg d0, if_pos d1, if_neg d2, if_pos (by omega)]
          · rw [if_neg d0, if_neg d1]
      · show p_X12_number I x1 x2 = _
        unfold p_X12_number gL
        by_cases d0 : 0 ≤ x1.toInt ∧ x1.toInt ≤ 1
        · rw [lies_y _ (by simp only [i32_toInt64, Int64.reduceToInt]; omega), if_neg (by decide)]
          by_cases d1 : x1 = 0
          · rw [if_pos d1]
            have : x1.toInt = 0 := by rw [d1]; rfl
            show gB (p_X12_lies _ _ _) _ = _
            rw [lies_n _ (by simp only [i32_toInt64, Int64.reduceToInt]; omega), if_pos rfl]
          · rw [if_neg d1]
            have : ¬ x1.toInt = 0 := fun q => d1 (Int32.toInt_inj.mp q)
            show gB (p_X12_lies _ _ _) _ = _
            rw [lies_n _ (by simp only [i32_toInt64, Int64.reduceToInt]; omega), if_pos rfl]
        · rw [lies_n _ (by simp only [i32_toInt64, Int64.reduceToInt]; omega), if_pos rfl]
