/-! ===== sale ===== -/
theorem x7_kd (I : gIt) {P : Nat} (hP : P ≤ 16) (h : I 1 7 = nI P) {k : Nat} (hk : k < P) (t : Int32) : p_X7_knownDead I (nI k) t = some (if ¬ I 5 k = -1 ∧ (I 6 k).toInt ≤ t.toInt then 1 else 0) := by
  unfold p_X7_knownDead
  have g : gin (nI k) 16 = true := gin_nI (by omega) (by omega)
  rw [gB_y _ (x7_has I hP h _) (in_y hk (by omega)), if_neg (by decide), gck_t g, gck_t g, nI_clamp (by omega)]
  by_cases c1 : I 5 k = -1
  · rw [if_pos c1, if_neg (fun q => q.1 c1)]
  · rw [if_neg c1]
    by_cases c2 : (I 6 k).toInt ≤ t.toInt
    · rw [if_neg (by rw [Int32.lt_iff_toInt_lt]; omega), if_pos ⟨c1, c2⟩]
    · rw [if_pos (by rw [Int32.lt_iff_toInt_lt]; omega), if_neg (fun q => c2 q.2)]
theorem x12_kd (I : gIt) {k : Nat} (hk : k < 16) (hp : I 154 k = I 5 k ∧ (¬ I 5 k = -1 → I 155 k = I 6 k)) (t : Int32) : p_X12_isDead I (nI k) t = some (if ¬ I 5 k = -1 ∧ (I 6 k).toInt ≤ t.toInt then 1 else 0) := by
  unfold p_X12_isDead
  have g : gin (nI k) 16 = true := gin_nI hk (by omega)
  rw [gck_t g, gck_t g, nI_clamp (by omega), hp.1]
  by_cases c1 : I 5 k = -1
  · rw [if_pos c1, if_neg (fun q => q.1 c1)]
  · rw [if_neg c1, hp.2 c1]
    by_cases c2 : (I 6 k).toInt ≤ t.toInt
    · rw [if_neg (by rw [Int32.lt_iff_toInt_lt]; omega), if_pos ⟨c1, c2⟩]
    · rw [if_pos (by rw [Int32.lt_iff_toInt_lt]; omega), if_neg (fun q => c2 q.2)]
theorem iPer_kd {I : gIt} {k : Nat} (h : iPer1 I k) : I 154 k = I 5 k ∧ (¬ I 5 k = -1 → I 155 k = I 6 k) := ⟨h.1.2.2.2, fun q => by
  rcases h.2.2.2 with z | z
  · exact absurd z q
  · exact z.1⟩
theorem x11_isParts (x : Int32) : p_X11_isParts x = some (if 1 ≤ x.toInt ∧ x.toInt ≤ 1000 then 1 else 0) := by
  unfold p_X11_isParts
  simp only [Int32.lt_iff_toInt_lt, Int32.reduceToInt]
  by_cases c1 : x.toInt < 1
  · rw [if_pos c1, if_neg (by omega)]
  · rw [if_neg c1]
    by_cases c2 : 1000 < x.toInt
    · rw [if_pos c2, if_neg (by omega)]
    · rw [if_neg c2, if_pos (by omega)]
theorem x12_isParts (x : Int32) : p_X12_isParts x = some (if 1 ≤ x.toInt ∧ x.toInt ≤ 1000 then 1 else 0) := by
  unfold p_X12_isParts
  rw [x12_lies, i32_toInt64]
  show gck (gbo _) _ = _
  rw [gck_t (gbo_ite _)]
  rfl
theorem x8_add {I : gIt} {nS : Nat} (hn : nS < 40) (h : I 84 10 = nI nS) (x1 x2 x4 y : Int32) : p_X8_add I x1 x2 x4 y = some (nI nS, gu2 (gu2 (gu2 (gu2 (gu2 (gu2 (gu2 (gu2 I 85 nS x1) 86 nS x2) 88 nS x4) 91 nS y) 92 nS (-1)) 93 nS (-1)) 94 nS (-1)) 84 10 (nI (nS + 1))) := by
  unfold p_X8_add gL
  have g : gin (nI nS) 40 = true := gin_nI hn (by omega)
  have hc : (nI nS).toNatClampNeg = nS := nI_clamp (by omega)
  rw [h, if_neg (nI_pos (by omega)), if_pos (show nI nS < (40 : Int32) from nI_lt (b := 40) hn (by omega))]
  simp only [gck_t g, hc]
  simp only [gu_rd, ne_eq, Nat.reduceEqDiff, not_false_eq_true, h, nI_1]
theorem nar_bool {x : Int32} (h : x = 0 ∨ x = 1) : vp_nar .boolean x = x := by rcases h with rfl | rfl <;> rfl
set_option maxRecDepth 4000 in
theorem EE13 : EE_13 gInv := by
  intro I J w x1 x2 x3 x4 x5 x6 hI h6
  obtain ⟨P, ns, nS, nC, nP, nT, hs, hr⟩ := id hI
  obtain ⟨⟨y1, y2, y3⟩, ⟨b1, b1', b1''⟩, ⟨b2, b2', b2''⟩, ⟨b3, b3', b3''⟩, b5⟩ := id hs
  by_cases c : (0 ≤ x1.toInt ∧ x1.toInt < P) ∧ (0 ≤ x4.toInt ∧ x4.toInt < P) ∧ ¬ x1 = x4 ∧ (0 ≤ x2.toInt ∧ x2.toInt < ns) ∧ (1 ≤ x3.toInt ∧ x3.toInt ≤ 1000) ∧ (0 ≤ x5.toInt ∧ x5.toInt ≤ 100000) ∧ nS < 40
  · obtain ⟨c1, c4, c14, c2, c3, c5, c7⟩ := c
    obtain ⟨s, -, e2, t2⟩ := i_of c2.1
    have hset := hr.2.2.2.2.2.2.2.1 s (by omega)
    obtain ⟨-, ⟨u1, kt, hkt, u2⟩, -⟩ := id hset
    have hcs : x2.toNatClampNeg = s := by rw [e2]; exact nI_clamp (by omega)
    have gs : gin x2 10 = true := by rw [e2]; exact gin_nI (by omega) (by omega)
    have g : gin (nI nS) 40 = true := gin_nI c7 (by omega)
    have hc : (nI nS).toNatClampNeg = nS := nI_clamp (by omega)
    by_cases cd : ¬ I 5 kt = -1 ∧ (I 6 kt).toInt ≤ (I 0 14).toInt
    · refine EEw (g := fun I => p_X12_sale I x1 x2 x3 x4 x5 x6) (-1) I I ?_ ?_ hI
      · unfold p_X11_sale
        rw [x11_settlementOf b2'' b2, if_pos c2]
        show gB (p_X7_has I x1) _ = _
        rw [gB_y _ (x7_has I b1'' b1 _) c1, if_neg (by decide), gB_y _ (x7_has I b1'' b1 _) c4, if_neg (by decide), if_neg c14, gB_y _ (x11_isParts x3) c3, if_neg (by decide), hcs, u2]
        simp only [Int32.lt_iff_toInt_lt, Int32.reduceToInt, b3, nI_toInt (show nS < 2 ^ 31 by omega)]
        rw [if_neg (by omega), if_neg (by omega), if_pos (by omega), gB_y _ (x7_kd I b1'' b1 hkt _) cd, if_neg (by decide)]
      · show p_X12_sale I x1 x2 x3 x4 x5 x6 = _
        unfold p_X12_sale
        rw [b3', if_neg (fun q => by have q : nI nS = nI 40 := q; rw [nI_eq (by omega) (by omega)] at q; omega), gB_y _ (x12_isPerson I b1'' b1' _) c1, if_neg (by decide), gB_y _ (x12_isPerson I b1'' b1' _) c4, if_neg (by decide), if_neg c14, gB_y _ (x12_isSettlement I b2'' b2' _) c2, if_neg (by decide), gB_y _ (x12_isParts x3) c3, if_neg (by decide), lies_y _ (by simp only [i32_toInt64, Int64.reduceToInt]; omega), if_neg (by decide), gck_t gs, hcs, u1, u2, y1, gB_y _ (x12_kd I (by omega) (iPer_kd (hr.1 kt hkt)) _) cd, if_neg (by decide)]
    · refine EEw (g := fun I => p_X12_sale I x1 x2 x3 x4 x5 x6) (nI nS) (gu2 (gu2 (gu2 (gu2 (gu2 (gu2 (gu2 (gu2 (gu2 (gu2 (gu2 I 85 nS x1) 86 nS x2) 88 nS x4) 91 nS (I 0 14)) 92 nS (-1)) 93 nS (-1)) 94 nS (-1)) 84 10 (nI (nS + 1))) 87 nS x3) 89 nS x5) 90 nS x6) (gu2 (gu2 (gu2 (gu2 (gu2 (gu2 (gu2 (gu2 (gu2 (gu2 (gu2 (gu2 (gu2 (gu2 (gu2 (gu2 (gu2 (gu2 (gu2 (gu2 (gu2 (gu2 I 85 nS x1) 86 nS x2) 88 nS x4) 91 nS (I 0 14)) 92 nS (-1)) 93 nS (-1)) 94 nS (-1)) 84 10 (nI (nS + 1))) 87 nS x3) 89 nS x5) 90 nS x6) 174 nS x1) 175 nS x2) 176 nS x3) 177 nS x4) 178 nS x5) 179 nS (I 0 14)) 180 nS x6) 181 nS (-1)) 182 nS (-1)) 183 nS (-1)) 149 5 (nI (nS + 1))) ?_ ?_ ?_
      · unfold p_X11_sale
        rw [x11_settlementOf b2'' b2, if_pos c2]
        show gB (p_X7_has I x1) _ = _
        rw [gB_y _ (x7_has I b1'' b1 _) c1, if_neg (by decide), gB_y _ (x7_has I b1'' b1 _) c4, if_neg (by decide), if_neg c14, gB_y _ (x11_isParts x3) c3, if_neg (by decide), hcs, u2]
        simp only [Int32.lt_iff_toInt_lt, Int32.reduceToInt, b3, nI_toInt (show nS < 2 ^ 31 by omega)]
        rw [if_neg (by omega), if_neg (by omega), if_pos (by omega), gB_n _ (x7_kd I b1'' b1 hkt _) cd, if_pos rfl, x8_add c7 b3]
        show gB (p_X8_has (gu2 (gu2 (gu2 (gu2 (gu2 (gu2 (gu2 (gu2 I 85 nS x1) 86 nS x2) 88 nS x4) 91 nS (I 0 14)) 92 nS (-1)) 93 nS (-1)) 94 nS (-1)) 84 10 (nI (nS + 1))) (nI nS)) _ = _
        rw [gB_y _ (x8_has _ (P := nS + 1) (by omega) rfl _) (in_y (by omega) (by omega)), if_neg (by decide), gck_t g, hc]
        unfold gL
        simp only [gck_t g, nar_bool h6]
      · generalize hI1 : gu2 (gu2 (gu2 (gu2 (gu2 (gu2 (gu2 (gu2 (gu2 (gu2 (gu2 I 85 nS x1) 86 nS x2) 88 nS x4) 91 nS (I 0 14)) 92 nS (-1)) 93 nS (-1)) 94 nS (-1)) 84 10 (nI (nS + 1))) 87 nS x3) 89 nS x5) 90 nS x6 = I1
        have f5 : I1 149 5 = nI nS := by rw [← hI1]; exact b3'
        have f3 : I1 149 3 = nI P := by rw [← hI1]; exact b1'
        have f4 : I1 149 4 = nI ns := by rw [← hI1]; exact b2'
        have f2 : I1 149 2 = I 0 14 := by rw [← hI1]; exact y1
        have f8 : I1 158 s = nI kt := by rw [← hI1]; exact u1.trans u2
        have fk : p_X12_isDead I1 (nI kt) (I 0 14) = some (if ¬ I 5 kt = -1 ∧ (I 6 kt).toInt ≤ (I 0 14).toInt then 1 else 0) := by
          rw [← hI1]
          exact x12_kd _ (by omega) (iPer_kd (hr.1 kt hkt)) _
        show p_X12_sale I1 x1 x2 x3 x4 x5 x6 = _
        unfold p_X12_sale gL
        rw [f5, if_neg (fun q => by have q : nI nS = nI 40 := q; rw [nI_eq (by omega) (by omega)] at q; omega), gB_y _ (x12_isPerson I1 b1'' f3 _) c1, if_neg (by decide), gB_y _ (x12_isPerson I1 b1'' f3 _) c4, if_neg (by decide), if_neg c14, gB_y _ (x12_isSettlement I1 b2'' f4 _) c2, if_neg (by decide), gB_y _ (x12_isParts x3) c3, if_neg (by decide), lies_y _ (by simp only [i32_toInt64, Int64.reduceToInt]; omega), if_neg (by decide), gck_t gs, hcs, f8, f2, gB_n _ fk cd, if_pos rfl]
        simp only [gck_t g, hc, gu_rd, ne_eq, Nat.reduceEqDiff, not_false_eq_true, f5, f2, nI_1, gu_sl, if_true, nI_back, nar_bool h6]
      · have t : ∀ x, ¬ (84 ≤ x ∧ x ≤ 94) → ¬ (174 ≤ x ∧ x ≤ 183) → ¬ x = 149 → gu2 (gu2 (gu2 (gu2 (gu2 (gu2 (gu2 (gu2 (gu2 (gu2 (gu2 (gu2 (gu2 (gu2 (gu2 (gu2 (gu2 (gu2 (gu2 (gu2 (gu2 (gu2 I 85 nS x1) 86 nS x2) 88 nS x4) 91 nS (I 0 14)) 92 nS (-1)) 93 nS (-1)) 94 nS (-1)) 84 10 (nI (nS + 1))) 87 nS x3) 89 nS x5) 90 nS x6) 174 nS x1) 175 nS x2) 176 nS x3) 177 nS x4) 178 nS x5) 179 nS (I 0 14)) 180 nS x6) 181 nS (-1)) 182 nS (-1)) 183 nS (-1)) 149 5 (nI (nS + 1)) x = I x := fun x q1 q2 q3 => by
          rw [gu2_ne (by omega), gu2_ne (by omega), gu2_ne (by omega), gu2_ne (by omega), gu2_ne (by omega), gu2_ne (by omega), gu2_ne (by omega), gu2_ne (by omega), gu2_ne (by omega), gu2_ne (by omega), gu2_ne (by omega), gu2_ne (by omega), gu2_ne (by omega), gu2_ne (by omega), gu2_ne (by omega), gu2_ne (by omega), gu2_ne (by omega), gu2_ne (by omega), gu2_ne (by omega), gu2_ne (by omega), gu2_ne (by omega), gu2_ne (by omega)]
        refine ⟨P, ns, nS + 1, nC, nP, nT, ⟨⟨y1, y2, y3⟩, ⟨b1, b1', b1''⟩, ⟨b2, b2', b2''⟩, ⟨rfl, rfl, by omega⟩, b5⟩, iRest_g (I := I) b2'' (Nat.le_refl _) hr (fun x hx => t x (by omega) (by omega) (by omega)) rfl rfl rfl rfl (by cases w <;> rfl) (by cases w <;> rfl) rfl rfl rfl rfl rfl hr.1 (fun i hi => ?_) hr.2.2.2.2.1 hr.2.2.2.2.2.1 hr.2.2.2.2.2.2.1⟩
        by_cases hik : i = nS
        · subst hik
          obtain ⟨k1, -, e1, t1⟩ := i_of c1.1
          obtain ⟨k4, -, e4, t4⟩ := i_of c4.1
          unfold iSal1
          have tt : ∀ s, s < 10 → gu2 (gu2 (gu2 (gu2 (gu2 (gu2 (gu2 (gu2 (gu2 (gu2 (gu2 (gu2 (gu2 (gu2 (gu2 (gu2 (gu2 (gu2 (gu2 (gu2 (gu2 (gu2 I 85 i x1) 86 i x2) 88 i x4) 91 i (I 0 14)) 92 i (-1)) 93 i (-1)) 94 i (-1)) 84 10 (nI (i + 1))) 87 i x3) 89 i x5) 90 i x6) 174 i x1) 175 i x2) 176 i x3) 177 i x4) 178 i x5) 179 i (I 0 14)) 180 i x6) 181 i (-1)) 182 i (-1)) 183 i (-1)) 149 5 (nI (i + 1)) (14 + 6 * s) = I (14 + 6 * s) := fun s hs => t _ (by omega) (by omega) (by omega)
          simp only [gu_rd, ne_eq, Nat.reduceEqDiff, not_false_eq_true, gu_sl, if_true]
          refine ⟨by simp, ⟨k1, by omega, e1⟩, ⟨k4, by omega, e4⟩, c14, c3, c5, h6, ⟨y2, Int.le_refl _⟩, Or.inl trivial, Or.inl trivial, s, by omega, e2, fun k hk hk2 => ?_⟩
          have hk3 : I (14 + 6 * s) 6 = nI k := by
            rw [← hk2]
            exact (congrFun (tt s (by omega)) 6).symm
          rw [u2, nI_eq (by omega) (by omega)] at hk3
          subst hk3
          by_cases z : I 5 kt = -1
          · exact Or.inl z
          · exact Or.inr ⟨Int.le_of_lt (Int.not_le.mp (fun q => cd ⟨z, q⟩)), Or.inl trivial⟩
        · exact iSal1_p (I := I) (fun r hr => by rw [gu_ne (by omega), gu_ne (by omega), gu_ne (by omega), gu_ne (by omega), gu_ne (by omega), gu_ne (by omega), gu_ne (by omega), gu_ne (by omega), gu_ne (by omega), gu_ne (by omega), gu_ne (by omega), gu_ne (by omega), gu_ne (by omega), gu_ne (by omega), gu_ne (by omega), gu_ne (by omega), gu_ne (by omega), gu_ne (by omega), gu_ne (by omega), gu_ne (by omega), gu_ne (by omega), gu_ne (by omega)]) (fun k _ => Or.inl ⟨rfl, rfl⟩) (fun s hs => by rw [t _ (by omega) (by omega) (by omega)]) (Int.le_refl _) (Nat.le_refl _) (Nat.le_refl _) (hr.2.2.2.1 i (by omega))
  · refine EEw (g := fun I => p_X12_sale I x1 x2 x3 x4 x5 x6) (-1) I I ?_ ?_ hI
    · unfold p_X11_sale
      rw [x11_settlementOf b2'' b2]
      by_cases d2 : 0 ≤ x2.toInt ∧ x2.toInt < ns
      · rw [if_pos d2]
        show gB (p_X7_has I x1) _ = _
        by_cases d1 : 0 ≤ x1.toInt ∧ x1.toInt < P
        · rw [gB_y _ (x7_has I b1'' b1 _) d1, if_neg (by decide)]
          by_cases d4 : 0 ≤ x4.toInt ∧ x4.toInt < P
          · rw [gB_y _ (x7_has I b1'' b1 _) d4, if_neg (by decide)]
            by_cases d14 : x1 = x4
            · rw [if_pos d14]
            · rw [if_neg d14]
              by_cases d3 : 1 ≤ x3.toInt ∧ x3.toInt ≤ 1000
              · rw [gB_y _ (x11_isParts x3) d3, if_neg (by decide)]
                simp only [Int32.lt_iff_toInt_lt, Int32.reduceToInt, b3, nI_toInt (show nS < 2 ^ 31 by omega)]
                by_cases d5 : x5.toInt < 0
                · rw [if_pos d5]
                · rw [if_neg d5]
                  by_cases d6 : 100000 < x5.toInt
                  · rw [if_pos d6]
                  · rw [if_neg d6, if_neg (fun q => c ⟨d1, d4, d14, d2, d3, by omega, by omega⟩)]
              · rw [gB_n _ (x11_isParts x3) d3, if_pos rfl]
          · rw [gB_n _ (x7_has I b1'' b1 _) d4, if_pos rfl]
        · rw [gB_n _ (x7_has I b1'' b1 _) d1, if_pos rfl]
      · rw [if_neg d2]
        rfl
    · show p_X12_sale I x1 x2 x3 x4 x5 x6 = _
      unfold p_X12_sale
      rw [b3']
      by_cases d0 : nI nS = 40
      · rw [if_pos d0]
      · rw [if_neg d0]
        have hc40 : nS < 40 := by
          have : ¬ nS = 40 := fun q => d0 (by rw [q]; rfl)
          omega
        by_cases d1 : 0 ≤ x1.toInt ∧ x1.toInt < P
        · rw [gB_y _ (x12_isPerson I b1'' b1' _) d1, if_neg (by decide)]
          by_cases d4 : 0 ≤ x4.toInt ∧ x4.toInt < P
          · rw [gB_y _ (x12_isPerson I b1'' b1' _) d4, if_neg (by decide)]
            by_cases d14 : x1 = x4
            · rw [if_pos d14]
            · rw [if_neg d14]
              by_cases d2 : 0 ≤ x2.toInt ∧ x2.toInt < ns
              · rw [gB_y _ (x12_isSettlement I b2'' b2' _) d2, if_neg (by decide)]
                by_cases d3 : 1 ≤ x3.toInt ∧ x3.toInt ≤ 1000
                · rw [gB_y _ (x12_isParts x3) d3, if_neg (by decide), lies_n _ (fun q => c ⟨d1, d4, d14, d2, d3, by simp only [i32_toInt64, Int64.reduceToInt] at q; omega, hc40⟩), if_pos rfl]
                · rw [gB_n _ (x12_isParts x3) d3, if_pos rfl]
              · rw [gB_n _ (x12_isSettlement I b2'' b2' _) d2, if_pos rfl]
          · rw [gB_n _ (x12_isPerson I b1'' b1' _) d4, if_pos rfl]
        · rw [gB_n _ (x12_isPerson I b1'' b1' _) d1, if_pos rfl]
