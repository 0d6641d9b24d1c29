/-! ===== person, dies ===== -/
theorem iPap1_p {I I' : gIt} {nP o : Nat} (h7 : I' 7 o = I 7 o) (h8 : I' 8 o = I 8 o) (h192 : I' 192 = I 192) (h193 : I' 193 = I 193) (q : iPap1 I nP o) : iPap1 I' nP o := by
  unfold iPap1 at q ⊢
  rw [h7, h8, h192, h193]
  exact q
theorem x7_add {I : gIt} {P : Nat} (hn : P < 16) (h : I 1 7 = nI P) (x1 x2 y : Int32) : p_X7_add I x1 x2 y = some (nI P, gu2 (gu2 (gu2 (gu2 (gu2 (gu2 (gu2 (gu2 I 2 P x1) 3 P x2) 4 P y) 5 P (-1)) 6 P (-1)) 7 P (-1)) 8 P (-1)) 1 7 (nI (P + 1))) := by
  unfold p_X7_add gL
  have g : gin (nI P) 16 = true := gin_nI hn (by omega)
  have hc : (nI P).toNatClampNeg = P := nI_clamp (by omega)
  rw [h, if_neg (nI_pos (by omega)), if_pos (show nI P < (16 : Int32) from nI_lt (b := 16) hn (by omega))]
  simp only [gck_t g, hc]
  simp only [gu_rd, ne_eq, Nat.reduceEqDiff, not_false_eq_true, h, nI_1]
theorem x12_person_w {I1 : gIt} {P : Nat} {y : Int32} (hn : P < 16) (f3 : I1 149 3 = nI P) (f2 : I1 149 2 = y) (x1 x2 : Int32) : (gck (gin (I1 149 3) 16) (gL (gu2 I1 151 ((I1 149 3)).toNatClampNeg x1) fun I7 => gck (gin (I7 149 3) 16) (gL (gu2 I7 152 ((I7 149 3)).toNatClampNeg x2) fun I9 => gL ((I9 149 2)) fun z10 => gck (gin (I9 149 3) 16) (gL (gu2 I9 153 ((I9 149 3)).toNatClampNeg z10) fun I12 => gck (gin (I12 149 3) 16) (gL (gu2 I12 154 ((I12 149 3)).toNatClampNeg (-1 : Int32)) fun I14 => gL (((I14 149 3) + (1 : Int32))) fun z15 => gL (gu2 I14 149 3 z15) fun I16 => some (((I16 149 3) - (1 : Int32)), I16)))))) = some (nI P, gu2 (gu2 (gu2 (gu2 (gu2 I1 151 P x1) 152 P x2) 153 P y) 154 P (-1)) 149 3 (nI (P + 1))) := by
  unfold gL
  have g : gin (nI P) 16 = true := gin_nI hn (by omega)
  have hc : (nI P).toNatClampNeg = P := nI_clamp (by omega)
  simp only [gu_rd, ne_eq, Nat.reduceEqDiff, not_false_eq_true, f3, f2, gck_t g, hc, nI_1, gu_sl, if_true, nI_back]
set_option maxRecDepth 4000 in
theorem EE1 : EE_1 gInv := by
  intro I J w x1 x2 hI
  obtain ⟨P, ns, nS, nC, nP, nT, hs, hr⟩ := id hI
  obtain ⟨⟨y1, y2, y3⟩, ⟨b1, b1', b1''⟩, ⟨b2, b2', b2''⟩, b3, b4, b5, b6⟩ := id hs
  by_cases c : (1600 ≤ x1.toInt ∧ x1.toInt ≤ (I 0 14).toInt) ∧ P < 16 ∧ (x2 = -1 ∨ ∃ k, k < P ∧ x2 = nI k ∧ (I 2 k).toInt ≤ x1.toInt)
  · obtain ⟨c1, c2, c3⟩ := c
    refine EEw (g := fun I => p_X12_person I x1 x2) (nI P) (gu2 (gu2 (gu2 (gu2 (gu2 (gu2 (gu2 (gu2 I 2 P x1) 3 P x2) 4 P (I 0 14)) 5 P (-1)) 6 P (-1)) 7 P (-1)) 8 P (-1)) 1 7 (nI (P + 1))) (gu2 (gu2 (gu2 (gu2 (gu2 (gu2 (gu2 (gu2 (gu2 (gu2 (gu2 (gu2 (gu2 I 2 P x1) 3 P x2) 4 P (I 0 14)) 5 P (-1)) 6 P (-1)) 7 P (-1)) 8 P (-1)) 1 7 (nI (P + 1))) 151 P x1) 152 P x2) 153 P (I 0 14)) 154 P (-1)) 149 3 (nI (P + 1))) ?_ ?_ ?_
    · unfold p_X11_person
      simp only [Int32.lt_iff_toInt_lt, Int32.le_iff_toInt_le, Int32.reduceToInt, b1, nI_toInt (show P < 2 ^ 31 by omega)]
      rw [if_neg (by omega), if_neg (by omega), if_pos (by omega)]
      rcases c3 with c3 | ⟨k, hk, e, hb⟩
      · rw [if_pos c3, x7_add c2 b1]
        rfl
      · have en : ¬ x2 = -1 := fun q => by rw [q] at e; have := congrArg Int32.toInt e; rw [nI_toInt (by omega)] at this; exact absurd this (by simp)
        rw [if_neg en, gB_y _ (x7_has I b1'' b1 _) (by rw [e]; exact in_y hk (by omega)), if_neg (by decide), e, gck_t (gin_nI (by omega) (by omega)), nI_clamp (by omega), if_pos hb, x7_add c2 b1]
        rfl
    · generalize hI1 : gu2 (gu2 (gu2 (gu2 (gu2 (gu2 (gu2 (gu2 I 2 P x1) 3 P x2) 4 P (I 0 14)) 5 P (-1)) 6 P (-1)) 7 P (-1)) 8 P (-1)) 1 7 (nI (P + 1)) = I1
      have f3 : I1 149 3 = nI P := by rw [← hI1]; exact b1'
      have f2 : I1 149 2 = I 0 14 := by rw [← hI1]; exact y1
      have f151 : ∀ k, k < P → I1 151 k = I 2 k := fun k hk => by rw [← hI1]; exact (hr.1 k hk).1.1
      show p_X12_person I1 x1 x2 = _
      unfold p_X12_person
      rw [if_neg (by rw [f3]; exact fun q => by have q : nI P = nI 16 := q; rw [nI_eq (by omega) (by omega)] at q; omega), lies_y _ (by simp only [i32_toInt64, Int64.reduceToInt, f2]; omega), if_neg (by decide)]
      rcases c3 with c3 | ⟨k, hk, e, hb⟩
      · rw [if_pos c3, x12_person_w c2 f3 f2]
      · have en : ¬ x2 = -1 := fun q => by rw [q] at e; have := congrArg Int32.toInt e; rw [nI_toInt (by omega)] at this; exact absurd this (by simp)
        rw [if_neg en, gB_y _ (x12_isPerson I1 b1'' f3 _) (by rw [e]; exact in_y hk (by omega)), if_neg (by decide), x12_person_w c2 f3 f2, e, gck_t (gin_nI (by omega) (by omega)), nI_clamp (by omega), f151 k hk, if_pos (by rw [Int32.le_iff_toInt_le]; exact hb)]
    · have t : ∀ x, ¬ (1 ≤ x ∧ x ≤ 8) → ¬ (151 ≤ x ∧ x ≤ 154) → ¬ x = 149 → gu2 (gu2 (gu2 (gu2 (gu2 (gu2 (gu2 (gu2 (gu2 (gu2 (gu2 (gu2 (gu2 I 2 P x1) 3 P x2) 4 P (I 0 14)) 5 P (-1)) 6 P (-1)) 7 P (-1)) 8 P (-1)) 1 7 (nI (P + 1))) 151 P x1) 152 P x2) 153 P (I 0 14)) 154 P (-1)) 149 3 (nI (P + 1)) x = I x := fun x q1 q2 q3 => by
        rw [gu2_ne (by omega), gu2_ne (by omega), gu2_ne (by omega), gu2_ne (by omega), gu2_ne (by omega), gu2_ne (by omega), gu2_ne (by omega), gu2_ne (by omega), gu2_ne (by omega), gu2_ne (by omega), gu2_ne (by omega), gu2_ne (by omega), gu2_ne (by omega)]
      have t2 : ∀ r o, (2 ≤ r ∧ r ≤ 8) ∨ (151 ≤ r ∧ r ≤ 155) → ¬ o = P → gu2 (gu2 (gu2 (gu2 (gu2 (gu2 (gu2 (gu2 (gu2 (gu2 (gu2 (gu2 (gu2 I 2 P x1) 3 P x2) 4 P (I 0 14)) 5 P (-1)) 6 P (-1)) 7 P (-1)) 8 P (-1)) 1 7 (nI (P + 1))) 151 P x1) 152 P x2) 153 P (I 0 14)) 154 P (-1)) 149 3 (nI (P + 1)) r o = I r o := fun r o q1 q2 => by
        rw [gu_ne (by omega), gu_ne (by omega), gu_ne (by omega), gu_ne (by omega), gu_ne (by omega), gu_ne (by omega), gu_ne (by omega), gu_ne (by omega), gu_ne (by omega), gu_ne (by omega), gu_ne (by omega), gu_ne (by omega), gu_ne (by omega)]
      have s5 : gu2 (gu2 (gu2 (gu2 (gu2 (gu2 (gu2 (gu2 (gu2 (gu2 (gu2 (gu2 (gu2 I 2 P x1) 3 P x2) 4 P (I 0 14)) 5 P (-1)) 6 P (-1)) 7 P (-1)) 8 P (-1)) 1 7 (nI (P + 1))) 151 P x1) 152 P x2) 153 P (I 0 14)) 154 P (-1)) 149 3 (nI (P + 1)) 5 P = -1 := by simp only [gu_rd, ne_eq, Nat.reduceEqDiff, not_false_eq_true, gu_sl, if_true]
      refine ⟨P + 1, ns, nS, nC, nP, nT, ⟨⟨y1, y2, y3⟩, ⟨rfl, rfl, by omega⟩, ⟨b2, b2', b2''⟩, b3, b4, b5, b6⟩, iRest_g (I := I) b2'' (Nat.le_succ _) hr (fun x hx => t x (by omega) (by omega) (by omega)) rfl rfl rfl rfl (by cases w <;> rfl) (by cases w <;> rfl) rfl rfl rfl rfl rfl (fun o ho => ?_) (fun i hi => ?_) (fun i hi => ?_) (fun k hk => ?_) (fun o ho => ?_)⟩
      · by_cases hoP : o = P
        · subst hoP
          unfold iPer1
          simp only [gu_rd, ne_eq, Nat.reduceEqDiff, not_false_eq_true, gu_sl, if_true]
          refine ⟨by simp, ⟨c1.1, c1.2, Int.le_refl _⟩, ?_, Or.inl trivial⟩
          rcases c3 with c3 | ⟨k, hk, e, -⟩
          · exact Or.inl c3
          · exact Or.inr ⟨k, hk, e⟩
        · exact iPer1_p (I := I) (fun r hr => t2 r o (by omega) hoP) (Int.le_refl _) (hr.1 o (by omega))
      · exact iSal1_p (I := I) (fun r hr => by rw [t r (by omega) (by omega) (by omega)]) (fun k _ => by
          by_cases hkP : k = P
          · rw [hkP]; exact Or.inr s5
          · exact Or.inl ⟨t2 5 k (by omega) hkP, t2 6 k (by omega) hkP⟩) (fun s hs => by rw [t _ (by omega) (by omega) (by omega)]) (Int.le_refl _) (Nat.le_succ _) (Nat.le_refl _) (hr.2.2.2.1 i hi)
      · exact iChg1_p (I := I) (fun r hr => by rw [t r (by omega) (by omega) (by omega)]) (Nat.le_succ _) (Nat.le_refl _) (hr.2.2.2.2.1 i hi)
      · obtain ⟨⟨o, ho, e⟩, z⟩ := hr.2.2.2.2.2.1 k hk
        exact ⟨⟨o, by omega, e⟩, z⟩
      · by_cases hoP : o = P
        · subst hoP
          refine Or.inl ⟨by simp only [gu_rd, ne_eq, Nat.reduceEqDiff, not_false_eq_true, gu_sl, if_true], by simp only [gu_rd, ne_eq, Nat.reduceEqDiff, not_false_eq_true, gu_sl, if_true], fun k hk e => ?_⟩
          obtain ⟨⟨o', ho', e'⟩, -⟩ := hr.2.2.2.2.2.1 k hk
          have e : I 192 k = nI o := e
          rw [e', nI_eq (by omega) (by omega)] at e
          omega
        · exact iPap1_p (I := I) (t2 7 o (by omega) hoP) (t2 8 o (by omega) hoP) rfl rfl (hr.2.2.2.2.2.2.1 o (by omega))
  · refine EEw (g := fun I => p_X12_person I x1 x2) (-1) I I ?_ ?_ hI
    · unfold p_X11_person
      simp only [Int32.lt_iff_toInt_lt, Int32.le_iff_toInt_le, Int32.reduceToInt, b1, nI_toInt (show P < 2 ^ 31 by omega)]
      by_cases d1 : x1.toInt < 1600
      · rw [if_pos d1]
      · rw [if_neg d1]
        by_cases d2 : (I 0 14).toInt < x1.toInt
        · rw [if_pos d2]
        · rw [if_neg d2]
          by_cases d3 : (P : Int) < 16
          · rw [if_pos d3]
            by_cases d4 : x2 = -1
            · exact absurd ⟨⟨by omega, by omega⟩, by omega, Or.inl d4⟩ c
            · rw [if_neg d4]
              rcases ix_or x2 (P := P) (by omega) with ⟨k, hk, e⟩ | hx
              · rw [gB_y _ (x7_has I b1'' b1 _) (by rw [e]; exact in_y hk (by omega)), if_neg (by decide), e, gck_t (gin_nI (by omega) (by omega)), nI_clamp (by omega), if_neg (fun q => c ⟨⟨by omega, by omega⟩, by omega, Or.inr ⟨k, hk, e, q⟩⟩)]
              · rw [gB_n _ (x7_has I b1'' b1 _) hx, if_pos rfl]
          · rw [if_neg d3]
    · show p_X12_person I x1 x2 = _
      unfold p_X12_person
      rw [b1', y1]
      by_cases d0 : nI P = 16
      · rw [if_pos d0]
      · rw [if_neg d0]
        have hc16 : P < 16 := by
          have : ¬ P = 16 := fun q => d0 (by rw [q]; rfl)
          omega
        by_cases d1 : 1600 ≤ x1.toInt ∧ x1.toInt ≤ (I 0 14).toInt
        · rw [lies_y _ (by simp only [i32_toInt64, Int64.reduceToInt]; omega), if_neg (by decide)]
          by_cases d4 : x2 = -1
          · exact absurd ⟨d1, hc16, Or.inl d4⟩ c
          · rw [if_neg d4]
            rcases ix_or x2 (P := P) (by omega) with ⟨k, hk, e⟩ | hx
            · rw [gB_y _ (x12_isPerson I b1'' b1' _) (by rw [e]; exact in_y hk (by omega)), if_neg (by decide), e, gck_t (gin_nI (by omega) (by omega)), nI_clamp (by omega), (hr.1 k hk).1.1, if_neg (fun q => c ⟨d1, hc16, Or.inr ⟨k, hk, e, by rw [Int32.le_iff_toInt_le] at q; exact q⟩⟩)]
            · rw [gB_n _ (x12_isPerson I b1'' b1' _) hx, if_pos rfl]
        · rw [lies_n _ (by simp only [i32_toInt64, Int64.reduceToInt]; omega), if_pos rfl]
