/-! ===== dies ===== -/
theorem iSal1_d {I I' : gIt} {P ns i : Nat} (h : ∀ r, (85 ≤ r ∧ r ≤ 94) ∨ (174 ≤ r ∧ r ≤ 183) → I' r i = I r i) (hd : ∀ k, k < 16 → (I' 5 k = I 5 k ∧ I' 6 k = I 6 k) ∨ I' 6 k = I 0 14) (hset : ∀ s, s < ns → I' (14 + 6 * s) 6 = I (14 + 6 * s) 6) (hy : I' 0 14 = I 0 14) (q : iSal1 I P ns i) : iSal1 I' P ns i := by
  unfold iSal1 at q ⊢
  rw [h 174 (by omega), h 175 (by omega), h 176 (by omega), h 177 (by omega), h 178 (by omega), h 179 (by omega), h 180 (by omega), h 181 (by omega), h 182 (by omega), h 183 (by omega), h 85 (by omega), h 86 (by omega), h 87 (by omega), h 88 (by omega), h 89 (by omega), h 90 (by omega), h 91 (by omega), h 92 (by omega), h 93 (by omega), h 94 (by omega), hy]
  obtain ⟨h1, h2, h3, h4, h5, h6, h7, h8, h9, h10, s, hs, h11, h12⟩ := q
  refine ⟨h1, h2, h3, h4, h5, h6, h7, h8, h9, h10, s, hs, h11, fun k hk16 hk => ?_⟩
  rw [hset s hs] at hk
  rcases hd k hk16 with ⟨d1, d2⟩ | d1
  · rw [d1, d2]
    exact h12 k hk16 hk
  · rw [d1]
    refine Or.inr ⟨h8.2, ?_⟩
    rcases h10 with z | z
    · exact Or.inl z
    · exact Or.inr z.2
theorem EE2 : EE_2 gInv := by
  intro I J w x1 x2 hI
  obtain ⟨P, ns, nS, nC, nP, nT, hs, hr⟩ := id hI
  obtain ⟨⟨y1, y2, y3⟩, ⟨b1, b1', b1''⟩, ⟨b2, b2', b2''⟩, b5⟩ := id hs
  rcases ix_or x1 (P := P) (by omega) with ⟨k, hk, rfl⟩ | hx
  · have hper := hr.1 k hk
    obtain ⟨⟨e1, e2, e3, e4⟩, ⟨p1, p2, p3⟩, p4, p5⟩ := id hper
    have g : gin (nI k) 16 = true := gin_nI (by omega) (by omega)
    have hc : (nI k).toNatClampNeg = k := nI_clamp (by omega)
    by_cases c1 : I 5 k = -1
    · by_cases c2 : (I 2 k).toInt ≤ x2.toInt ∧ x2.toInt ≤ (I 0 14).toInt
      · refine EEw (g := fun I => p_X12_dies I (nI k) x2) 1 (gu2 (gu2 I 5 k x2) 6 k (I 0 14)) (gu2 (gu2 (gu2 (gu2 I 5 k x2) 6 k (I 0 14)) 154 k x2) 155 k (I 0 14)) ?_ ?_ ?_
        · unfold p_X11_dies gL
          rw [gB_y _ (x7_has I b1'' b1 _) (in_y hk (by omega)), if_neg (by decide), gck_t g, hc, if_pos c1]
          simp only [Int32.lt_iff_toInt_lt, Int32.le_iff_toInt_le, gck_t g]
          rw [if_neg (by omega), if_pos (by omega)]
          rfl
        · generalize hI1 : gu2 (gu2 I 5 k x2) 6 k (I 0 14) = I1
          have f3 : I1 149 3 = nI P := by rw [← hI1]; exact b1'
          have f2 : I1 149 2 = I 0 14 := by rw [← hI1]; exact y1
          have f154 : I1 154 k = -1 := by rw [← hI1]; exact e4.trans c1
          have f151 : I1 151 k = I 2 k := by rw [← hI1]; exact e1
          show p_X12_dies I1 (nI k) x2 = _
          unfold p_X12_dies gL
          rw [gB_y _ (x12_isPerson I1 b1'' f3 _) (in_y hk (by omega)), if_neg (by decide), gck_t g, hc, f154, if_pos rfl, gck_t g, f151, f2, lies_y _ (by simp only [i32_toInt64]; omega), if_neg (by decide)]
          simp only [gck_t g, gu_rd, ne_eq, Nat.reduceEqDiff, not_false_eq_true, f2]
        · have t : ∀ x, ¬ x = 5 → ¬ x = 6 → ¬ x = 154 → ¬ x = 155 → gu2 (gu2 (gu2 (gu2 I 5 k x2) 6 k (I 0 14)) 154 k x2) 155 k (I 0 14) x = I x := fun x q1 q2 q3 q4 => by
            rw [gu2_ne q4, gu2_ne q3, gu2_ne q2, gu2_ne q1]
          have t2 : ∀ r o, ¬ o = k → gu2 (gu2 (gu2 (gu2 I 5 k x2) 6 k (I 0 14)) 154 k x2) 155 k (I 0 14) r o = I r o := fun r o q => by
            rw [gu_ne (by omega), gu_ne (by omega), gu_ne (by omega), gu_ne (by omega)]
          refine ⟨P, ns, nS, nC, nP, nT, ⟨⟨y1, y2, y3⟩, ⟨b1, b1', b1''⟩, ⟨b2, b2', b2''⟩, b5⟩, iRest_g (I := I) b2'' (Nat.le_refl _) hr (fun x hx => t x (by omega) (by omega) (by omega) (by omega)) rfl rfl rfl rfl (by cases w <;> rfl) (by cases w <;> rfl) rfl rfl rfl rfl rfl (fun o ho => ?_) (fun i hi => ?_) hr.2.2.2.2.1 hr.2.2.2.2.2.1 (fun o ho => ?_)⟩
          · by_cases hok : o = k
            · subst hok
              unfold iPer1
              simp only [gu_rd, ne_eq, Nat.reduceEqDiff, not_false_eq_true, gu_sl, if_true]
              exact ⟨⟨e1, e2, e3, trivial⟩, ⟨p1, p2, p3⟩, p4, Or.inr ⟨trivial, c2.1, c2.2, p3, Int.le_refl _⟩⟩
            · exact iPer1_p (I := I) (fun r hr => t2 r o hok) (Int.le_refl _) (hr.1 o ho)
          · refine iSal1_d (I := I) (fun r hr => by rw [t r (by omega) (by omega) (by omega) (by omega)]) (fun j _ => ?_) (fun s hs => by rw [t _ (by omega) (by omega) (by omega) (by omega)]) rfl (hr.2.2.2.1 i hi)
            by_cases hj : j = k
            · subst hj
              right
              simp only [gu_rd, ne_eq, Nat.reduceEqDiff, not_false_eq_true, gu_sl, if_true]
            · exact Or.inl ⟨t2 5 j hj, t2 6 j hj⟩
          · exact iPap1_c (I := I) (t 7 (by decide) (by decide) (by decide) (by decide)) (t 8 (by decide) (by decide) (by decide) (by decide)) rfl rfl (hr.2.2.2.2.2.2.1 o ho)
      · refine EEw (g := fun I => p_X12_dies I (nI k) x2) 0 I I ?_ ?_ hI
        · unfold p_X11_dies gL
          rw [gB_y _ (x7_has I b1'' b1 _) (in_y hk (by omega)), if_neg (by decide), gck_t g, hc, if_pos c1]
          simp only [Int32.lt_iff_toInt_lt, Int32.le_iff_toInt_le, gck_t g]
          by_cases d : x2.toInt < (I 2 k).toInt
          · rw [if_pos d]
          · rw [if_neg d, if_neg (by omega)]
        · show p_X12_dies I (nI k) x2 = _
          unfold p_X12_dies gL
          rw [gB_y _ (x12_isPerson I b1'' b1' _) (in_y hk (by omega)), if_neg (by decide), gck_t g, hc, e4, if_pos c1, gck_t g, e1, y1, lies_n _ (by simp only [i32_toInt64]; omega), if_pos rfl]
    · refine EEw (g := fun I => p_X12_dies I (nI k) x2) 0 I I ?_ ?_ hI
      · unfold p_X11_dies gL
        rw [gB_y _ (x7_has I b1'' b1 _) (in_y hk (by omega)), if_neg (by decide), gck_t g, hc, if_neg c1]
      · show p_X12_dies I (nI k) x2 = _
        unfold p_X12_dies gL
        rw [gB_y _ (x12_isPerson I b1'' b1' _) (in_y hk (by omega)), if_neg (by decide), gck_t g, hc, e4, if_neg c1]
  · refine EEw (g := fun I => p_X12_dies I x1 x2) 0 I I ?_ ?_ hI
    · unfold p_X11_dies gL
      rw [gB_n _ (x7_has I b1'' b1 _) hx, if_pos rfl]
    · show p_X12_dies I x1 x2 = _
      unfold p_X12_dies gL
      rw [gB_n _ (x12_isPerson I b1'' b1' _) hx, if_pos rfl]
/-! ===== papers ===== -/
def pap7 (a x : Int32) : Int32 := if a = -1 then x else if a ≤ x then a else x
theorem gu2_id {I : gIt} {a j : Nat} : gu2 I a j (I a j) = I := by
  funext x y
  unfold gu2
  by_cases h : x = a ∧ y = j
  · rw [if_pos h, h.1, h.2]
  · rw [if_neg h]
theorem x7_addPaper {I : gIt} {P nP k : Nat} (hP : P ≤ 16) (h : I 1 7 = nI P) (h8 : I 1 8 = nI nP) (hk : k < P) (x : Int32) : p_X7_addPaper I (nI k) x = some (gu2 (gu2 (gu2 I 7 k (pap7 (I 7 k) x)) 8 k (gmax (I 8 k) x)) 1 8 (nI (nP + 1))) := by
  unfold p_X7_addPaper gL
  have g : gin (nI k) 16 = true := gin_nI (by omega) (by omega)
  rw [gB_y _ (x7_has I hP h _) (in_y hk (by omega)), if_neg (by decide), gck_t g, nI_clamp (by omega)]
  simp only [gck_t g]
  have e : (if I 7 k = -1 then some (gu2 I 7 k x) else if I 7 k ≤ x then some I else some (gu2 I 7 k x)) = some (gu2 I 7 k (pap7 (I 7 k) x)) := by
    unfold pap7
    by_cases c1 : I 7 k = -1
    · rw [if_pos c1, if_pos c1]
    · rw [if_neg c1, if_neg c1]
      by_cases c2 : I 7 k ≤ x
      · rw [if_pos c2, if_pos c2, gu2_id]
      · rw [if_neg c2, if_neg c2]
  rw [e]
  show some _ = some _
  simp only [gu_rd, ne_eq, Nat.reduceEqDiff, not_false_eq_true, h8, nI_1]
theorem EE24 : EE_24 gInv := by
  intro I J w x1 x2 hI
  obtain ⟨P, ns, nS, nC, nP, nT, hs, hr⟩ := id hI
  obtain ⟨⟨y1, y2, y3⟩, ⟨b1, b1', b1''⟩, ⟨b2, b2', b2''⟩, b3, b4, ⟨b5, b5', b5''⟩, b6⟩ := id hs
  by_cases c : (0 ≤ x1.toInt ∧ x1.toInt < P) ∧ (0 ≤ x2.toInt ∧ x2.toInt ≤ (I 0 14).toInt) ∧ nP < 100
  · obtain ⟨c1, c2, c3⟩ := c
    obtain ⟨k, -, rfl, tk⟩ := i_of c1.1
    have hk : k < P := by omega
    have g : gin (nI nP) 100 = true := gin_nI c3 (by omega)
    have hc : (nI nP).toNatClampNeg = nP := nI_clamp (by omega)
    refine EEw (g := fun I => p_X12_papers I (nI k) x2) 1 (gu2 (gu2 (gu2 I 7 k (pap7 (I 7 k) x2)) 8 k (gmax (I 8 k) x2)) 1 8 (nI (nP + 1))) (gu2 (gu2 (gu2 (gu2 (gu2 (gu2 I 7 k (pap7 (I 7 k) x2)) 8 k (gmax (I 8 k) x2)) 1 8 (nI (nP + 1))) 192 nP (nI k)) 193 nP x2) 149 7 (nI (nP + 1))) ?_ ?_ ?_
    · unfold p_X11_papers
      rw [gB_y _ (x7_has I b1'' b1 _) c1, if_neg (by decide)]
      simp only [Int32.lt_iff_toInt_lt, Int32.reduceToInt, b5, nI_toInt (show nP < 2 ^ 31 by omega)]
      rw [if_neg (by omega), if_neg (by omega), if_pos (by omega), x7_addPaper b1'' b1 b5 hk]
      rfl
    · generalize hI1 : gu2 (gu2 (gu2 I 7 k (pap7 (I 7 k) x2)) 8 k (gmax (I 8 k) x2)) 1 8 (nI (nP + 1)) = I1
      have f3 : I1 149 3 = nI P := by rw [← hI1]; exact b1'
      have f2 : I1 149 2 = I 0 14 := by rw [← hI1]; exact y1
      have f7 : I1 149 7 = nI nP := by rw [← hI1]; exact b5'
      show p_X12_papers I1 (nI k) x2 = _
      unfold p_X12_papers gL
      rw [f7, if_neg (fun q => by have q : nI nP = nI 100 := q; rw [nI_eq (by omega) (by omega)] at q; omega), gB_y _ (x12_isPerson I1 b1'' f3 _) c1, if_neg (by decide), f2, lies_y _ (by simp only [i32_toInt64, Int64.reduceToInt]; omega), if_neg (by decide)]
      simp only [gck_t g, hc, gu_rd, ne_eq, Nat.reduceEqDiff, not_false_eq_true, f7, nI_1]
    · have t : ∀ x, ¬ x = 1 → ¬ x = 7 → ¬ x = 8 → ¬ x = 149 → ¬ x = 192 → ¬ x = 193 → gu2 (gu2 (gu2 (gu2 (gu2 (gu2 I 7 k (pap7 (I 7 k) x2)) 8 k (gmax (I 8 k) x2)) 1 8 (nI (nP + 1))) 192 nP (nI k)) 193 nP x2) 149 7 (nI (nP + 1)) x = I x := fun x q1 q2 q3 q4 q5 q6 => by
        rw [gu2_ne q4, gu2_ne q6, gu2_ne q5, gu2_ne q1, gu2_ne q3, gu2_ne q2]
      have v7 : ∀ o, gu2 (gu2 (gu2 (gu2 (gu2 (gu2 I 7 k (pap7 (I 7 k) x2)) 8 k (gmax (I 8 k) x2)) 1 8 (nI (nP + 1))) 192 nP (nI k)) 193 nP x2) 149 7 (nI (nP + 1)) 7 o = if o = k then pap7 (I 7 k) x2 else I 7 o := fun o => by simp only [gu_rd, ne_eq, Nat.reduceEqDiff, not_false_eq_true, gu_sl]
      have v8 : ∀ o, gu2 (gu2 (gu2 (gu2 (gu2 (gu2 I 7 k (pap7 (I 7 k) x2)) 8 k (gmax (I 8 k) x2)) 1 8 (nI (nP + 1))) 192 nP (nI k)) 193 nP x2) 149 7 (nI (nP + 1)) 8 o = if o = k then gmax (I 8 k) x2 else I 8 o := fun o => by simp only [gu_rd, ne_eq, Nat.reduceEqDiff, not_false_eq_true, gu_sl]
      have v192 : ∀ o, gu2 (gu2 (gu2 (gu2 (gu2 (gu2 I 7 k (pap7 (I 7 k) x2)) 8 k (gmax (I 8 k) x2)) 1 8 (nI (nP + 1))) 192 nP (nI k)) 193 nP x2) 149 7 (nI (nP + 1)) 192 o = if o = nP then nI k else I 192 o := fun o => by simp only [gu_rd, ne_eq, Nat.reduceEqDiff, not_false_eq_true, gu_sl]
      have v193 : ∀ o, gu2 (gu2 (gu2 (gu2 (gu2 (gu2 I 7 k (pap7 (I 7 k) x2)) 8 k (gmax (I 8 k) x2)) 1 8 (nI (nP + 1))) 192 nP (nI k)) 193 nP x2) 149 7 (nI (nP + 1)) 193 o = if o = nP then x2 else I 193 o := fun o => by simp only [gu_rd, ne_eq, Nat.reduceEqDiff, not_false_eq_true, gu_sl]
      refine ⟨P, ns, nS, nC, nP + 1, nT, ⟨⟨y1, y2, y3⟩, ⟨b1, b1', b1''⟩, ⟨b2, b2', b2''⟩, b3, b4, ⟨rfl, rfl, by omega⟩, b6⟩, iRest_g (I := I) b2'' (Nat.le_refl _) hr (fun x hx => t x (by omega) (by omega) (by omega) (by omega) (by omega) (by omega)) rfl rfl rfl rfl (by cases w <;> rfl) (by cases w <;> rfl) rfl rfl rfl rfl rfl (fun o ho => ?_) (fun i hi => ?_) hr.2.2.2.2.1 (fun i hi => ?_) (fun o ho => ?_)⟩
      · exact iPer1_c (I := I) (fun x hx => t x (by omega) (by omega) (by omega) (by omega) (by omega) (by omega)) (Int.le_refl _) (hr.1 o ho)
      · exact iSal1_c (I := I) (fun x hx => t x (by omega) (by omega) (by omega) (by omega) (by omega) (by omega)) (Int.le_refl _) (Nat.le_refl _) (Nat.le_refl _) b2'' (hr.2.2.2.1 i hi)
      · rw [v192, v193]
        by_cases hi' : i = nP
        · rw [if_pos hi', if_pos hi']
          exact ⟨⟨k, hk, rfl⟩, c2.1⟩
        · rw [if_neg hi', if_neg hi']
          exact hr.2.2.2.2.2.1 i (by omega)
      · have q := hr.2.2.2.2.2.2.1 o ho
        have hyr := fun j hj => (hr.2.2.2.2.2.1 j hj).2
        unfold iPap1 at q ⊢
        simp only [v7, v8, v192, v193]
        by_cases hok : o = k
        · subst hok
          simp only [if_true]
          right
          rcases q with ⟨q1, q2, q3⟩ | ⟨⟨a1, ha1, ea1, va1⟩, ⟨a2, ha2, ea2, va2⟩, q3⟩
          · have z7 : pap7 (I 7 o) x2 = x2 := by unfold pap7; rw [if_pos q1]
            have z8 : gmax (I 8 o) x2 = x2 := by unfold gmax; rw [q2, if_pos (by
              rw [Int32.lt_iff_toInt_lt]
              have z : (-1 : Int32).toInt = -1 := by decide
              omega)]
            rw [z7, z8]
            refine ⟨⟨nP, by omega, by rw [if_pos rfl], by rw [if_pos rfl]⟩, ⟨nP, by omega, by rw [if_pos rfl], by rw [if_pos rfl]⟩, fun j hj ej => ?_⟩
            by_cases hjn : j = nP
            · rw [if_pos hjn]; omega
            · rw [if_neg hjn] at ej
              exact absurd ej (q3 j (by omega))
          · have n7 : ¬ I 7 o = -1 := fun q => by
              have := hyr a1 ha1
              rw [va1, q] at this
              exact absurd this (by decide)
            refine ⟨?_, ?_, fun j hj ej => ?_⟩
            · by_cases d : I 7 o ≤ x2
              · have z7 : pap7 (I 7 o) x2 = I 7 o := by unfold pap7; rw [if_neg n7, if_pos d]
                exact ⟨a1, by omega, by rw [if_neg (by omega)]; exact ea1, by rw [if_neg (by omega), z7]; exact va1⟩
              · have z7 : pap7 (I 7 o) x2 = x2 := by unfold pap7; rw [if_neg n7, if_neg d]
                exact ⟨nP, by omega, by rw [if_pos rfl], by rw [if_pos rfl, z7]⟩
            · by_cases d : I 8 o < x2
              · have z8 : gmax (I 8 o) x2 = x2 := by unfold gmax; rw [if_pos d]
                exact ⟨nP, by omega, by rw [if_pos rfl], by rw [if_pos rfl, z8]⟩
              · have z8 : gmax (I 8 o) x2 = I 8 o := by unfold gmax; rw [if_neg d]
                exact ⟨a2, by omega, by rw [if_neg (by omega)]; exact ea2, by rw [if_neg (by omega), z8]; exact va2⟩
            · have l7 : (pap7 (I 7 o) x2).toInt ≤ (I 7 o).toInt ∧ (pap7 (I 7 o) x2).toInt ≤ x2.toInt := by
                unfold pap7
                rw [if_neg n7]
                by_cases d : I 7 o ≤ x2
                · rw [if_pos d]; rw [Int32.le_iff_toInt_le] at d; omega
                · rw [if_neg d]; rw [Int32.le_iff_toInt_le] at d; omega
              have l8 : (I 8 o).toInt ≤ (gmax (I 8 o) x2).toInt ∧ x2.toInt ≤ (gmax (I 8 o) x2).toInt := by
                unfold gmax
                by_cases d : I 8 o < x2
                · rw [if_pos d]; rw [Int32.lt_iff_toInt_lt] at d; omega
                · rw [if_neg d]; rw [Int32.lt_iff_toInt_lt] at d; omega
              by_cases hjn : j = nP
              · rw [if_pos hjn]; omega
              · rw [if_neg hjn] at ej ⊢
                have := q3 j (by omega) ej
                omega
        · simp only [if_neg hok]
          have nk : ¬ nI k = nI o := fun z => by rw [nI_eq (by omega) (by omega)] at z; omega
          rcases q with ⟨q1, q2, q3⟩ | ⟨⟨a1, ha1, ea1, va1⟩, ⟨a2, ha2, ea2, va2⟩, q3⟩
          · refine Or.inl ⟨q1, q2, fun j hj ej => ?_⟩
            by_cases hjn : j = nP
            · rw [if_pos hjn] at ej; exact nk ej
            · rw [if_neg hjn] at ej; exact q3 j (by omega) ej
          · refine Or.inr ⟨⟨a1, by omega, by rw [if_neg (by omega)]; exact ea1, by rw [if_neg (by omega)]; exact va1⟩, ⟨a2, by omega, by rw [if_neg (by omega)]; exact ea2, by rw [if_neg (by omega)]; exact va2⟩, fun j hj ej => ?_⟩
            by_cases hjn : j = nP
            · rw [if_pos hjn] at ej; exact absurd ej nk
            · rw [if_neg hjn] at ej ⊢; exact q3 j (by omega) ej
  · refine EEw (g := fun I => p_X12_papers I x1 x2) 0 I I ?_ ?_ hI
    · unfold p_X11_papers
      by_cases d1 : 0 ≤ x1.toInt ∧ x1.toInt < P
      · rw [gB_y _ (x7_has I b1'' b1 _) d1, if_neg (by decide)]
        simp only [Int32.lt_iff_toInt_lt, Int32.reduceToInt, b5, nI_toInt (show nP < 2 ^ 31 by omega)]
        by_cases d2 : x2.toInt < 0
        · rw [if_pos d2]
        · rw [if_neg d2]
          by_cases d3 : (I 0 14).toInt < x2.toInt
          · rw [if_pos d3]
          · rw [if_neg d3, if_neg (by omega)]
      · rw [gB_n _ (x7_has I b1'' b1 _) d1, if_pos rfl]
    · show p_X12_papers I x1 x2 = _
      unfold p_X12_papers gL
      by_cases d0 : I 149 7 = 100
      · rw [if_pos d0]
      · rw [if_neg d0]
        have h100 : nP < 100 := by
          have : ¬ nP = 100 := fun q => d0 (by rw [b5', q]; rfl)
          omega
        by_cases d1 : 0 ≤ x1.toInt ∧ x1.toInt < P
        · rw [gB_y _ (x12_isPerson I b1'' b1' _) d1, if_neg (by decide), y1, lies_n _ (by simp only [i32_toInt64, Int64.reduceToInt]; omega), if_pos rfl]
        · rw [gB_n _ (x12_isPerson I b1'' b1' _) d1, if_pos rfl]
