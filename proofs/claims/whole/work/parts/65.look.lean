/-! ===== who is there; what a sale says; counts ===== -/
theorem ix_or (x : Int32) {P : Nat} (hP : P < 2 ^ 31) : (∃ k, k < P ∧ x = nI k) ∨ ¬ (0 ≤ x.toInt ∧ x.toInt < P) := by
  by_cases h : 0 ≤ x.toInt ∧ x.toInt < P
  · obtain ⟨k, hk, e, t⟩ := i_of h.1
    exact Or.inl ⟨k, by omega, e⟩
  · exact Or.inr h
theorem x7_has (I : gIt) {P : Nat} (hP : P ≤ 16) (h : I 1 7 = nI P) (x : Int32) : p_X7_has I x = some (if 0 ≤ x.toInt ∧ x.toInt < P then 1 else 0) := by
  unfold p_X7_has
  rw [h]
  simp only [Int32.lt_iff_toInt_lt, Int32.le_iff_toInt_le, Int32.reduceToInt, nI_toInt (show P < 2 ^ 31 by omega)]
  by_cases c1 : x.toInt < 0
  · rw [if_pos c1, if_neg (by omega)]
  · rw [if_neg c1]
    by_cases c2 : (P : Int) ≤ x.toInt
    · rw [if_pos c2, if_neg (by omega)]
    · rw [if_neg c2, if_neg (by omega), if_pos (by omega)]
theorem x8_has (I : gIt) {P : Nat} (hP : P ≤ 40) (h : I 84 10 = nI P) (x : Int32) : p_X8_has I x = some (if 0 ≤ x.toInt ∧ x.toInt < P then 1 else 0) := by
  unfold p_X8_has
  rw [h]
  simp only [Int32.lt_iff_toInt_lt, Int32.le_iff_toInt_le, Int32.reduceToInt, nI_toInt (show P < 2 ^ 31 by omega)]
  by_cases c1 : x.toInt < 0
  · rw [if_pos c1, if_neg (by omega)]
  · rw [if_neg c1]
    by_cases c2 : (P : Int) ≤ x.toInt
    · rw [if_pos c2, if_neg (by omega)]
    · rw [if_neg c2, if_neg (by omega), if_pos (by omega)]
theorem nI_m1 {P : Nat} (hP : P < 2 ^ 30) : (nI P - 1).toInt = (P : Int) - 1 := pk_sub_toInt (b := 1) hP (by omega)
theorem gbo_ite (c : Prop) [Decidable c] : gbo (if c then 1 else 0) = true := by
  by_cases h : c
  · rw [if_pos h]; rfl
  · rw [if_neg h]; rfl
theorem x12_isPerson (I : gIt) {P : Nat} (hP : P ≤ 16) (h : I 149 3 = nI P) (x : Int32) : p_X12_isPerson I x = some (if 0 ≤ x.toInt ∧ x.toInt < P then 1 else 0) := by
  unfold p_X12_isPerson
  rw [h, x12_lies, i32_toInt64, i32_toInt64, nI_m1 (by omega)]
  show gck (gbo _) _ = _
  rw [gck_t (gbo_ite _)]
  by_cases c : 0 ≤ x.toInt ∧ x.toInt < P
  · rw [if_pos c, if_pos (by simp only [Int64.reduceToInt]; omega)]
  · rw [if_neg c, if_neg (by simp only [Int64.reduceToInt]; omega)]
theorem x12_isSale (I : gIt) {P : Nat} (hP : P ≤ 40) (h : I 149 5 = nI P) (x : Int32) : p_X12_isSale I x = some (if 0 ≤ x.toInt ∧ x.toInt < P then 1 else 0) := by
  unfold p_X12_isSale
  rw [h, x12_lies, i32_toInt64, i32_toInt64, nI_m1 (by omega)]
  show gck (gbo _) _ = _
  rw [gck_t (gbo_ite _)]
  by_cases c : 0 ≤ x.toInt ∧ x.toInt < P
  · rw [if_pos c, if_pos (by simp only [Int64.reduceToInt]; omega)]
  · rw [if_neg c, if_neg (by simp only [Int64.reduceToInt]; omega)]
theorem in_y {k P : Nat} (h : k < P) (hP : P < 2 ^ 31) : 0 ≤ (nI k).toInt ∧ (nI k).toInt < P := by rw [nI_toInt (by omega)]; omega
theorem gB_y {α : Type} {o : Option Int32} {c : Prop} {i : Decidable c} (f : Int32 → Option α) (ho : o = some (@ite _ c i 1 0)) (h : c) : gB o f = f 1 := by rw [ho, if_pos h]; rfl
theorem gB_n {α : Type} {o : Option Int32} {c : Prop} {i : Decidable c} (f : Int32 → Option α) (ho : o = some (@ite _ c i 1 0)) (h : ¬ c) : gB o f = f 0 := by rw [ho, if_neg h]; rfl
theorem EE26 : EE_26 gInv := by
  intro I J w x1 x2 hI
  obtain ⟨P, ns, nS, nC, nP, nT, hs, hr⟩ := id hI
  obtain ⟨a1, a2, a3, ⟨a4, a4', a4''⟩, -⟩ := id hs
  rcases ix_or x1 (P := nS) (by omega) with ⟨k, hk, rfl⟩ | hx
  · obtain ⟨⟨e1, e2, e3, e4, e5, e6, e7, e8, e9, e10⟩, -⟩ := hr.2.2.2.1 k hk
    have g : gin (nI k) 40 = true := gin_nI (by omega) (by omega)
    have hc : (nI k).toNatClampNeg = k := nI_clamp (by omega)
    by_cases c0 : x2 = 0
    · exact EEr (I 85 k) (by unfold p_X11_look; rw [gB_y _ (x8_has I a4'' a4 _) (in_y hk (by omega)), if_neg (by decide), if_pos c0, gck_t g, hc]) (by unfold p_X12_look; rw [gB_y _ (x12_isSale I a4'' a4' _) (in_y hk (by omega)), if_neg (by decide), if_pos c0, gck_t g, hc, e1]) hI
    by_cases c1 : x2 = 1
    · exact EEr (I 86 k) (by unfold p_X11_look; rw [gB_y _ (x8_has I a4'' a4 _) (in_y hk (by omega)), if_neg (by decide), if_neg c0, if_pos c1, gck_t g, hc]) (by unfold p_X12_look; rw [gB_y _ (x12_isSale I a4'' a4' _) (in_y hk (by omega)), if_neg (by decide), if_neg c0, if_pos c1, gck_t g, hc, e2]) hI
    by_cases c2 : x2 = 2
    · exact EEr (I 87 k) (by unfold p_X11_look; rw [gB_y _ (x8_has I a4'' a4 _) (in_y hk (by omega)), if_neg (by decide), if_neg c0, if_neg c1, if_pos c2, gck_t g, hc]) (by unfold p_X12_look; rw [gB_y _ (x12_isSale I a4'' a4' _) (in_y hk (by omega)), if_neg (by decide), if_neg c0, if_neg c1, if_pos c2, gck_t g, hc, e3]) hI
    by_cases c3 : x2 = 3
    · exact EEr (I 88 k) (by unfold p_X11_look; rw [gB_y _ (x8_has I a4'' a4 _) (in_y hk (by omega)), if_neg (by decide), if_neg c0, if_neg c1, if_neg c2, if_pos c3, gck_t g, hc]) (by unfold p_X12_look; rw [gB_y _ (x12_isSale I a4'' a4' _) (in_y hk (by omega)), if_neg (by decide), if_neg c0, if_neg c1, if_neg c2, if_pos c3, gck_t g, hc, e4]) hI
    by_cases c4 : x2 = 4
    · exact EEr (I 89 k) (by unfold p_X11_look; rw [gB_y _ (x8_has I a4'' a4 _) (in_y hk (by omega)), if_neg (by decide), if_neg c0, if_neg c1, if_neg c2, if_neg c3, if_pos c4, gck_t g, hc]) (by unfold p_X12_look; rw [gB_y _ (x12_isSale I a4'' a4' _) (in_y hk (by omega)), if_neg (by decide), if_neg c0, if_neg c1, if_neg c2, if_neg c3, if_pos c4, gck_t g, hc, e5]) hI
    by_cases c5 : x2 = 5
    · exact EEr (I 91 k) (by unfold p_X11_look; rw [gB_y _ (x8_has I a4'' a4 _) (in_y hk (by omega)), if_neg (by decide), if_neg c0, if_neg c1, if_neg c2, if_neg c3, if_neg c4, if_pos c5, gck_t g, hc]) (by unfold p_X12_look; rw [gB_y _ (x12_isSale I a4'' a4' _) (in_y hk (by omega)), if_neg (by decide), if_neg c0, if_neg c1, if_neg c2, if_neg c3, if_neg c4, if_pos c5, gck_t g, hc, e7]) hI
    by_cases c6 : x2 = 6
    · exact EEr (I 92 k) (by unfold p_X11_look; rw [gB_y _ (x8_has I a4'' a4 _) (in_y hk (by omega)), if_neg (by decide), if_neg c0, if_neg c1, if_neg c2, if_neg c3, if_neg c4, if_neg c5, if_pos c6, gck_t g, hc]) (by unfold p_X12_look; rw [gB_y _ (x12_isSale I a4'' a4' _) (in_y hk (by omega)), if_neg (by decide), if_neg c0, if_neg c1, if_neg c2, if_neg c3, if_neg c4, if_neg c5, if_pos c6, gck_t g, hc, e8]) hI
    by_cases c7 : x2 = 7
    · exact EEr (I 93 k) (by unfold p_X11_look; rw [gB_y _ (x8_has I a4'' a4 _) (in_y hk (by omega)), if_neg (by decide), if_neg c0, if_neg c1, if_neg c2, if_neg c3, if_neg c4, if_neg c5, if_neg c6, if_pos c7, gck_t g, hc]) (by unfold p_X12_look; rw [gB_y _ (x12_isSale I a4'' a4' _) (in_y hk (by omega)), if_neg (by decide), if_neg c0, if_neg c1, if_neg c2, if_neg c3, if_neg c4, if_neg c5, if_neg c6, if_pos c7, gck_t g, hc, e9]) hI
    by_cases c8 : x2 = 8
    · exact EEr (I 94 k) (by unfold p_X11_look; rw [gB_y _ (x8_has I a4'' a4 _) (in_y hk (by omega)), if_neg (by decide), if_neg c0, if_neg c1, if_neg c2, if_neg c3, if_neg c4, if_neg c5, if_neg c6, if_neg c7, if_pos c8, gck_t g, hc]) (by unfold p_X12_look; rw [gB_y _ (x12_isSale I a4'' a4' _) (in_y hk (by omega)), if_neg (by decide), if_neg c0, if_neg c1, if_neg c2, if_neg c3, if_neg c4, if_neg c5, if_neg c6, if_neg c7, if_pos c8, gck_t g, hc, e10]) hI
    exact EEr (-1) (by unfold p_X11_look; rw [gB_y _ (x8_has I a4'' a4 _) (in_y hk (by omega)), if_neg (by decide), if_neg c0, if_neg c1, if_neg c2, if_neg c3, if_neg c4, if_neg c5, if_neg c6, if_neg c7, if_neg c8]) (by unfold p_X12_look; rw [gB_y _ (x12_isSale I a4'' a4' _) (in_y hk (by omega)), if_neg (by decide), if_neg c0, if_neg c1, if_neg c2, if_neg c3, if_neg c4, if_neg c5, if_neg c6, if_neg c7, if_neg c8]) hI
  · exact EEr (-1) (by unfold p_X11_look; rw [gB_n _ (x8_has I a4'' a4 _) hx, if_pos rfl]) (by unfold p_X12_look; rw [gB_n _ (x12_isSale I a4'' a4' _) hx, if_pos rfl]) hI
