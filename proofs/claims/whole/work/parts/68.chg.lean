/-! ===== charge ===== -/
theorem gu_rd {α : Type} {f : Nat → Nat → α} {a j : Nat} {v : α} {x y : Nat} (h : x ≠ a) : gu2 f a j v x y = f x y := by unfold gu2; rw [if_neg (fun q => h q.1)]
theorem gu_sl {α : Type} {f : Nat → Nat → α} {a j : Nat} {v : α} {y : Nat} : gu2 f a j v a y = if y = j then v else f a y := by
  unfold gu2
  by_cases h : y = j <;> simp [h]
theorem x12_isSettlement (I : gIt) {P : Nat} (hP : P ≤ 10) (h : I 149 4 = nI P) (x : Int32) : p_X12_isSettlement I x = some (if 0 ≤ x.toInt ∧ x.toInt < P then 1 else 0) := by
  unfold p_X12_isSettlement
  rw [h, x12_lies, i32_toInt64, i32_toInt64, nI_m1 (by omega)]
  show gck (gbo _) _ = _
  rw [gck_t (gbo_ite _)]
  by_cases c : 0 ≤ x.toInt ∧ x.toInt < P
  · rw [if_pos c, if_pos (by simp only [Int64.reduceToInt]; omega)]
  · rw [if_neg c, if_neg (by simp only [Int64.reduceToInt]; omega)]
theorem nI_back (n : Nat) : nI (n + 1) - 1 = nI n := nI_pred n
theorem x2_add {I : gIt} {n : Nat} (hn : n < 20) (h : I 95 5 = nI n) (x1 x2 x3 x4 x5 : Int32) : p_X2_add I x1 x2 x3 x4 x5 = some (nI n, gu2 (gu2 (gu2 (gu2 (gu2 (gu2 I 96 n x1) 97 n x2) 98 n x3) 99 n x4) 100 n x5) 95 5 (nI (n + 1))) := by
  unfold p_X2_add gL
  have g : gin (nI n) 20 = true := gin_nI hn (by omega)
  have hc : (nI n).toNatClampNeg = n := nI_clamp (by omega)
  rw [h, if_neg (nI_pos (by omega)), if_pos (show nI n < (20 : Int32) from nI_lt (b := 20) hn (by omega))]
  simp only [gck_t g, hc]
  simp only [gu_rd, ne_eq, Nat.reduceEqDiff, not_false_eq_true, h, nI_1]
theorem EE15 : EE_15 gInv := by
  intro I J w x1 x2 x3 x4 hI
  obtain ⟨P, ns, nS, nC, nP, nT, hs, hr⟩ := id hI
  obtain ⟨⟨y1, y2, y3⟩, ⟨b1, b1', b1''⟩, ⟨b2, b2', b2''⟩, b3, ⟨b4, b4', b4''⟩, b5⟩ := id hs
  by_cases c : (0 ≤ x1.toInt ∧ x1.toInt < P) ∧ (0 ≤ x3.toInt ∧ x3.toInt < P) ∧ ¬ x1 = x3 ∧ (0 ≤ x2.toInt ∧ x2.toInt < ns) ∧ (1 ≤ x4.toInt ∧ x4.toInt ≤ 100000) ∧ nC < 20
  · obtain ⟨c1, c3, c13, c2, c4, c5⟩ := c
    have g : gin (nI nC) 20 = true := gin_nI c5 (by omega)
    have hc : (nI nC).toNatClampNeg = nC := nI_clamp (by omega)
    refine EEw (g := fun I => p_X12_charge I x1 x2 x3 x4) (nI nC) (gu2 (gu2 (gu2 (gu2 (gu2 (gu2 I 96 nC x1) 97 nC x2) 98 nC x3) 99 nC x4) 100 nC (I 0 14)) 95 5 (nI (nC + 1))) (gu2 (gu2 (gu2 (gu2 (gu2 (gu2 (gu2 (gu2 (gu2 (gu2 (gu2 (gu2 I 96 nC x1) 97 nC x2) 98 nC x3) 99 nC x4) 100 nC (I 0 14)) 95 5 (nI (nC + 1))) 184 nC x1) 185 nC x2) 186 nC x3) 187 nC x4) 188 nC (I 0 14)) 149 6 (nI (nC + 1))) ?_ ?_ ?_
    · unfold p_X11_charge
      rw [gB_y _ (x7_has I b1'' b1 _) c1, if_neg (by decide), gB_y _ (x7_has I b1'' b1 _) c3, if_neg (by decide), if_neg c13, x11_settlementOf b2'' b2, if_pos c2]
      show (if x4 < 1 then _ else _) = _
      simp only [Int32.lt_iff_toInt_lt, Int32.reduceToInt, b4, nI_toInt (show nC < 2 ^ 31 by omega)]
      rw [if_neg (by omega), if_neg (by omega), if_pos (by omega), x2_add c5 b4]
      rfl
    · generalize hI1 : gu2 (gu2 (gu2 (gu2 (gu2 (gu2 I 96 nC x1) 97 nC x2) 98 nC x3) 99 nC x4) 100 nC (I 0 14)) 95 5 (nI (nC + 1)) = I1
      have f6 : I1 149 6 = nI nC := by rw [← hI1]; exact b4'
      have f3 : I1 149 3 = nI P := by rw [← hI1]; exact b1'
      have f4 : I1 149 4 = nI ns := by rw [← hI1]; exact b2'
      have f2 : I1 149 2 = I 0 14 := by rw [← hI1]; exact y1
      show p_X12_charge I1 x1 x2 x3 x4 = _
      unfold p_X12_charge gL
      rw [f6, if_neg (fun q => by have q : nI nC = nI 20 := q; rw [nI_eq (by omega) (by omega)] at q; omega), gB_y _ (x12_isPerson I1 b1'' f3 _) c1, if_neg (by decide), gB_y _ (x12_isPerson I1 b1'' f3 _) c3, if_neg (by decide), if_neg c13, gB_y _ (x12_isSettlement I1 b2'' f4 _) c2, if_neg (by decide), lies_y _ (by simp only [i32_toInt64, Int64.reduceToInt]; omega), if_neg (by decide)]
      simp only [gck_t g, hc, gu_rd, ne_eq, Nat.reduceEqDiff, not_false_eq_true, f6, f2, nI_1, gu_sl, if_true, nI_back]
    · have t : ∀ x, ¬ (96 ≤ x ∧ x ≤ 100) → ¬ (184 ≤ x ∧ x ≤ 188) → ¬ x = 95 → ¬ x = 149 → gu2 (gu2 (gu2 (gu2 (gu2 (gu2 (gu2 (gu2 (gu2 (gu2 (gu2 (gu2 I 96 nC x1) 97 nC x2) 98 nC x3) 99 nC x4) 100 nC (I 0 14)) 95 5 (nI (nC + 1))) 184 nC x1) 185 nC x2) 186 nC x3) 187 nC x4) 188 nC (I 0 14)) 149 6 (nI (nC + 1)) x = I x := fun x q1 q2 q3 q4 => by
        rw [gu2_ne (by omega), gu2_ne (by omega), gu2_ne (by omega), gu2_ne (by omega), gu2_ne (by omega), gu2_ne (by omega), gu2_ne (by omega), gu2_ne (by omega), gu2_ne (by omega), gu2_ne (by omega), gu2_ne (by omega), gu2_ne (by omega)]
      refine ⟨P, ns, nS, nC + 1, nP, nT, ⟨⟨y1, y2, y3⟩, ⟨b1, b1', b1''⟩, ⟨b2, b2', b2''⟩, b3, ⟨rfl, rfl, by omega⟩, b5⟩, iRest_g (I := I) b2'' (Nat.le_refl _) hr (fun x hx => t x (by omega) (by omega) (by omega) (by omega)) rfl rfl rfl rfl (by cases w <;> rfl) (by cases w <;> rfl) rfl rfl rfl rfl rfl hr.1 (fun i hi => ?_) (fun i hi => ?_) hr.2.2.2.2.2.1 hr.2.2.2.2.2.2.1⟩
      · exact iSal1_p (I := I) (fun r hr => by rw [t r (by omega) (by omega) (by omega) (by omega)]) (fun k _ => Or.inl ⟨rfl, rfl⟩) (fun s hs => by rw [t _ (by omega) (by omega) (by omega) (by omega)]) (Int.le_refl _) (Nat.le_refl _) (Nat.le_refl _) (hr.2.2.2.1 i hi)
      · by_cases hik : i = nC
        · subst hik
          obtain ⟨k1, -, e1, t1⟩ := i_of c1.1
          obtain ⟨k2, -, e2, t2⟩ := i_of c2.1
          obtain ⟨k3, -, e3, t3⟩ := i_of c3.1
          unfold iChg1
          simp only [gu_rd, ne_eq, Nat.reduceEqDiff, not_false_eq_true, gu_sl, if_true]
          exact ⟨by simp, ⟨k1, by omega, e1⟩, ⟨k2, by omega, e2⟩, ⟨k3, by omega, e3⟩, c4⟩
        · exact iChg1_p (I := I) (fun r hr => by rw [gu_ne (by omega), gu_ne (by omega), gu_ne (by omega), gu_ne (by omega), gu_ne (by omega), gu_ne (by omega), gu_ne (by omega), gu_ne (by omega), gu_ne (by omega), gu_ne (by omega), gu_ne (by omega), gu_ne (by omega)]) (Nat.le_refl _) (Nat.le_refl _) (hr.2.2.2.2.1 i (by omega))
  · refine EEw (g := fun I => p_X12_charge I x1 x2 x3 x4) (-1) I I ?_ ?_ hI
    · unfold p_X11_charge
      by_cases d1 : 0 ≤ x1.toInt ∧ x1.toInt < P
      · rw [gB_y _ (x7_has I b1'' b1 _) d1, if_neg (by decide)]
        by_cases d3 : 0 ≤ x3.toInt ∧ x3.toInt < P
        · rw [gB_y _ (x7_has I b1'' b1 _) d3, if_neg (by decide)]
          by_cases d13 : x1 = x3
          · rw [if_pos d13]
          · rw [if_neg d13, x11_settlementOf b2'' b2]
            by_cases d2 : 0 ≤ x2.toInt ∧ x2.toInt < ns
            · rw [if_pos d2]
              show (if x4 < 1 then _ else _) = _
              simp only [Int32.lt_iff_toInt_lt, Int32.reduceToInt, b4, nI_toInt (show nC < 2 ^ 31 by omega)]
              by_cases d4 : x4.toInt < 1
              · rw [if_pos d4]
              · rw [if_neg d4]
                by_cases d5 : 100000 < x4.toInt
                · rw [if_pos d5]
                · rw [if_neg d5, if_neg (fun q => c ⟨d1, d3, d13, d2, by omega, by omega⟩)]
            · rw [if_neg d2]
              rfl
        · rw [gB_n _ (x7_has I b1'' b1 _) d3, if_pos rfl]
      · rw [gB_n _ (x7_has I b1'' b1 _) d1, if_pos rfl]
    · show p_X12_charge I x1 x2 x3 x4 = _
      unfold p_X12_charge
      rw [b4']
      by_cases d0 : nI nC = 20
      · rw [if_pos d0]
      · rw [if_neg d0]
        have hc20 : nC < 20 := by
          have : ¬ nC = 20 := fun q => d0 (by rw [q]; rfl)
          omega
        by_cases d1 : 0 ≤ x1.toInt ∧ x1.toInt < P
        · rw [gB_y _ (x12_isPerson I b1'' b1' _) d1, if_neg (by decide)]
          by_cases d3 : 0 ≤ x3.toInt ∧ x3.toInt < P
          · rw [gB_y _ (x12_isPerson I b1'' b1' _) d3, if_neg (by decide)]
            by_cases d13 : x1 = x3
            · rw [if_pos d13]
            · rw [if_neg d13]
              by_cases d2 : 0 ≤ x2.toInt ∧ x2.toInt < ns
              · rw [gB_y _ (x12_isSettlement I b2'' b2' _) d2, if_neg (by decide), lies_n _ (fun q => c ⟨d1, d3, d13, d2, by simp only [i32_toInt64, Int64.reduceToInt] at q; omega, hc20⟩), if_pos rfl]
              · rw [gB_n _ (x12_isSettlement I b2'' b2' _) d2, if_pos rfl]
          · rw [gB_n _ (x12_isPerson I b1'' b1' _) d3, if_pos rfl]
        · rw [gB_n _ (x12_isPerson I b1'' b1' _) d1, if_pos rfl]
