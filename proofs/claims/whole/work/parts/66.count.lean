/-! ===== count ===== -/
theorem x11_settlementOf {I : gIt} {ns : Nat} (hn : ns ≤ 10) (h : I 0 13 = nI ns) (x : Int32) : p_X11_settlementOf I x = some (if 0 ≤ x.toInt ∧ x.toInt < ns then some (14 + 6 * x.toNatClampNeg) else none) := by
  unfold p_X11_settlementOf
  rw [h]
  by_cases c : 0 ≤ x.toInt ∧ x.toInt < ns
  · obtain ⟨k, hk, rfl, t⟩ := i_of c.1
    rw [if_neg (nI_pos (by omega)), if_neg (nI_ge (by omega) (by omega)), if_neg (nI_ge (by omega) (by omega)), gck_t (gin_nI (by omega) (by omega)), if_pos c]
  · rw [if_neg c]
    simp only [Int32.lt_iff_toInt_lt, Int32.le_iff_toInt_le, Int32.reduceToInt, nI_toInt (show ns < 2 ^ 31 by omega)]
    by_cases c1 : x.toInt < 0
    · rw [if_pos c1]
    · rw [if_neg c1, if_pos (by omega)]
theorem cnt_cl {I : gIt} {P s : Nat} (h : iSet1 I P s) : I 160 s = I (14 + 6 * s) 8 := by
  obtain ⟨-, -, -, C, -, -, e1, e2, -⟩ := h
  rw [e1, e2]
theorem EE27 : EE_27 gInv := by
  intro I J w x1 hI
  obtain ⟨P, ns, nS, nC, nP, nT, hs, hr⟩ := id hI
  obtain ⟨⟨a1, -⟩, ⟨b1, b1', b1''⟩, ⟨b2, b2', b2''⟩, ⟨b3, b3', -⟩, ⟨b4, b4', -⟩, ⟨b5, b5', -⟩, ⟨b6, b6', -⟩, ⟨b7, -⟩, ⟨b8, -⟩⟩ := id hs
  have q1 : (19 + I 149 4).toInt = 19 + (ns : Int) := by rw [b2']; show (nI 19 + nI ns).toInt = _; rw [nI_add, nI_toInt (by omega)]; omega
  have q2 : (39 + I 149 3).toInt = 39 + (P : Int) := by rw [b1']; show (nI 39 + nI P).toInt = _; rw [nI_add, nI_toInt (by omega)]; omega
  have nx : ∀ v : Nat, v < 2 ^ 31 → ¬ x1.toInt = v → ¬ x1 = nI v := fun v hv q e => q (by rw [e, nI_toInt hv])
  -- the reference, where neither a settlement nor a person is asked for
  have m0 : ∀ {α : Type} (A B : Int32 → Option α), True := fun _ _ => trivial
  by_cases hc1 : 20 ≤ x1.toInt ∧ x1.toInt ≤ 19 + ns
  · obtain ⟨n, hn, rfl, t⟩ := i_of (show 0 ≤ x1.toInt by omega)
    obtain ⟨s, rfl⟩ : ∃ s, n = 20 + s := ⟨n - 20, by omega⟩
    have e : nI (20 + s) - 20 = nI s := by show _ - nI 20 = _; rw [pk_sub (by omega)]; congr 1; omega
    refine EEr (I (14 + 6 * s) 8) ?_ ?_ hI
    · unfold p_X11_count
      rw [if_neg (show ¬ _ = (0 : Int32) from nx 0 (by omega) (by omega)), if_neg (show ¬ _ = (1 : Int32) from nx 1 (by omega) (by omega)), if_neg (show ¬ _ = (2 : Int32) from nx 2 (by omega) (by omega)), if_neg (show ¬ _ = (3 : Int32) from nx 3 (by omega) (by omega)), if_neg (show ¬ _ = (4 : Int32) from nx 4 (by omega) (by omega)), if_neg (show ¬ _ = (5 : Int32) from nx 5 (by omega) (by omega)), if_neg (show ¬ _ = (6 : Int32) from nx 6 (by omega) (by omega)), if_neg (show ¬ _ = (7 : Int32) from nx 7 (by omega) (by omega)), if_neg (show ¬ _ = (8 : Int32) from nx 8 (by omega) (by omega)), if_neg (show ¬ _ = (9 : Int32) from nx 9 (by omega) (by omega))]
      unfold p_X11_countBeyond
      rw [e, x11_settlementOf b2'' b2]
      simp only [Int32.lt_iff_toInt_lt, Int32.le_iff_toInt_le, Int32.reduceToInt]
      rw [if_neg (by omega), if_neg (by omega), if_pos (by rw [nI_toInt (by omega)]; omega), nI_clamp (by omega)]
      rfl
    · unfold p_X12_count
      rw [lies_y _ (by simp only [i32_toInt64, Int64.reduceToInt, q1]; omega), if_neg (by decide), e, gck_t (gin_nI (by omega) (by omega)), nI_clamp (by omega), cnt_cl (hr.2.2.2.2.2.2.2.1 s (by omega))]
  · by_cases hc2 : 40 ≤ x1.toInt ∧ x1.toInt ≤ 39 + P
    · obtain ⟨n, hn, rfl, t⟩ := i_of (show 0 ≤ x1.toInt by omega)
      obtain ⟨k, rfl⟩ : ∃ k, n = 40 + k := ⟨n - 40, by omega⟩
      have e : nI (40 + k) - 40 = nI k := by show _ - nI 40 = _; rw [pk_sub (by omega)]; congr 1; omega
      refine EEr (I 5 k) ?_ ?_ hI
      · unfold p_X11_count
        rw [if_neg (show ¬ _ = (0 : Int32) from nx 0 (by omega) (by omega)), if_neg (show ¬ _ = (1 : Int32) from nx 1 (by omega) (by omega)), if_neg (show ¬ _ = (2 : Int32) from nx 2 (by omega) (by omega)), if_neg (show ¬ _ = (3 : Int32) from nx 3 (by omega) (by omega)), if_neg (show ¬ _ = (4 : Int32) from nx 4 (by omega) (by omega)), if_neg (show ¬ _ = (5 : Int32) from nx 5 (by omega) (by omega)), if_neg (show ¬ _ = (6 : Int32) from nx 6 (by omega) (by omega)), if_neg (show ¬ _ = (7 : Int32) from nx 7 (by omega) (by omega)), if_neg (show ¬ _ = (8 : Int32) from nx 8 (by omega) (by omega)), if_neg (show ¬ _ = (9 : Int32) from nx 9 (by omega) (by omega))]
        unfold p_X11_countBeyond
        rw [e, gB_y _ (x7_has I b1'' b1 _) (in_y (by omega) (by omega))]
        simp only [Int32.lt_iff_toInt_lt, Int32.le_iff_toInt_le, Int32.reduceToInt]
        rw [if_neg (by omega), if_pos (by omega), if_neg (by omega), if_neg (by omega), if_neg (by decide), gck_t (gin_nI (by omega) (by omega)), nI_clamp (by omega)]
        rfl
      · unfold p_X12_count
        rw [lies_n _ (by simp only [i32_toInt64, Int64.reduceToInt, q1]; omega), if_pos rfl, lies_y _ (by simp only [i32_toInt64, Int64.reduceToInt, q2]; omega), if_neg (by decide), e, gck_t (gin_nI (by omega) (by omega)), nI_clamp (by omega), (hr.1 k (by omega)).1.2.2.2]
    · have z1 : ∀ f : Int32 → Option Int32, gB (p_X12_lies (Int32.toInt64 x1) 20 (Int32.toInt64 (19 + I 149 4))) f = f 0 := fun f => lies_n _ (by simp only [i32_toInt64, Int64.reduceToInt, q1]; omega)
      have z2 : ∀ f : Int32 → Option Int32, gB (p_X12_lies (Int32.toInt64 x1) 40 (Int32.toInt64 (39 + I 149 3))) f = f 0 := fun f => lies_n _ (by simp only [i32_toInt64, Int64.reduceToInt, q2]; omega)
      by_cases c0 : x1 = 0
      · exact EEr (I 0 14) (by unfold p_X11_count; rw [if_pos c0]) (by unfold p_X12_count; rw [z1, if_pos rfl, z2, if_pos rfl, if_pos c0, a1]) hI
      by_cases c1 : x1 = 1
      · exact EEr (I 1 7) (by unfold p_X11_count; rw [if_neg c0, if_pos c1]) (by unfold p_X12_count; rw [z1, if_pos rfl, z2, if_pos rfl, if_neg c0, if_pos c1, b1', ← b1]) hI
      by_cases c2 : x1 = 2
      · exact EEr (I 0 13) (by unfold p_X11_count; rw [if_neg c0, if_neg c1, if_pos c2]) (by unfold p_X12_count; rw [z1, if_pos rfl, z2, if_pos rfl, if_neg c0, if_neg c1, if_pos c2, b2', ← b2]) hI
      by_cases c3 : x1 = 3
      · exact EEr (I 84 10) (by unfold p_X11_count; rw [if_neg c0, if_neg c1, if_neg c2, if_pos c3]) (by unfold p_X12_count; rw [z1, if_pos rfl, z2, if_pos rfl, if_neg c0, if_neg c1, if_neg c2, if_pos c3, b3', ← b3]) hI
      by_cases c4 : x1 = 4
      · exact EEr (I 95 5) (by unfold p_X11_count; rw [if_neg c0, if_neg c1, if_neg c2, if_neg c3, if_pos c4]) (by unfold p_X12_count; rw [z1, if_pos rfl, z2, if_pos rfl, if_neg c0, if_neg c1, if_neg c2, if_neg c3, if_pos c4, b4', ← b4]) hI
      by_cases c5 : x1 = 5
      · exact EEr (I 1 8) (by unfold p_X11_count; rw [if_neg c0, if_neg c1, if_neg c2, if_neg c3, if_neg c4, if_pos c5]) (by unfold p_X12_count; rw [z1, if_pos rfl, z2, if_pos rfl, if_neg c0, if_neg c1, if_neg c2, if_neg c3, if_neg c4, if_pos c5, b5', ← b5]) hI
      by_cases c6 : x1 = 6
      · exact EEr (I 11 1) (by unfold p_X11_count; rw [if_neg c0, if_neg c1, if_neg c2, if_neg c3, if_neg c4, if_neg c5, if_pos c6]) (by unfold p_X12_count; rw [z1, if_pos rfl, z2, if_pos rfl, if_neg c0, if_neg c1, if_neg c2, if_neg c3, if_neg c4, if_neg c5, if_pos c6, b6', ← b6]) hI
      by_cases c7 : x1 = 7
      · exact EEr (if I 0 12 = 0 then 0 else 1) (by unfold p_X11_count; rw [if_neg c0, if_neg c1, if_neg c2, if_neg c3, if_neg c4, if_neg c5, if_neg c6, if_pos c7]; split <;> rfl) (by unfold p_X12_count; rw [z1, if_pos rfl, z2, if_pos rfl, if_neg c0, if_neg c1, if_neg c2, if_neg c3, if_neg c4, if_neg c5, if_neg c6, if_pos c7, hr.2.2.2.2.2.2.2.2.1]; split <;> rfl) hI
      by_cases c8 : x1 = 8
      · exact EEr (I 9 1) (by unfold p_X11_count; rw [if_neg c0, if_neg c1, if_neg c2, if_neg c3, if_neg c4, if_neg c5, if_neg c6, if_neg c7, if_pos c8]) (by unfold p_X12_count; rw [z1, if_pos rfl, z2, if_pos rfl, if_neg c0, if_neg c1, if_neg c2, if_neg c3, if_neg c4, if_neg c5, if_neg c6, if_neg c7, if_pos c8, b7]) hI
      by_cases c9 : x1 = 9
      · exact EEr (I 0 15) (by unfold p_X11_count; rw [if_neg c0, if_neg c1, if_neg c2, if_neg c3, if_neg c4, if_neg c5, if_neg c6, if_neg c7, if_neg c8, if_pos c9]) (by unfold p_X12_count; rw [z1, if_pos rfl, z2, if_pos rfl, if_neg c0, if_neg c1, if_neg c2, if_neg c3, if_neg c4, if_neg c5, if_neg c6, if_neg c7, if_neg c8, if_pos c9, b8]) hI
      refine EEr (-1) ?_ ?_ hI
      · unfold p_X11_count
        rw [if_neg c0, if_neg c1, if_neg c2, if_neg c3, if_neg c4, if_neg c5, if_neg c6, if_neg c7, if_neg c8, if_neg c9]
        have hb : p_X11_countBeyond I x1 = some (-1) := by
          unfold p_X11_countBeyond
          simp only [Int32.lt_iff_toInt_lt, Int32.le_iff_toInt_le, Int32.reduceToInt]
          by_cases d1 : x1.toInt < 20
          · rw [if_pos d1, if_pos (by omega)]
          · rw [if_neg d1]
            obtain ⟨n, hn, rfl, t⟩ := i_of (show 0 ≤ x1.toInt by omega)
            by_cases d2 : 30 ≤ (nI n).toInt
            · rw [if_pos d2]
              by_cases d3 : (nI n).toInt < 40
              · rw [if_pos d3]
              · rw [if_neg d3]
                by_cases d4 : 56 ≤ (nI n).toInt
                · rw [if_pos d4]
                · rw [if_neg d4]
                  have e : nI n - 40 = nI (n - 40) := by show _ - nI 40 = _; rw [pk_sub (by omega)]
                  rw [e, gB_n _ (x7_has I b1'' b1 _) (by rw [nI_toInt (by omega)]; omega), if_pos rfl]
            · rw [if_neg d2]
              have e : nI n - 20 = nI (n - 20) := by show _ - nI 20 = _; rw [pk_sub (by omega)]
              rw [e, x11_settlementOf b2'' b2, if_neg (by rw [nI_toInt (by omega)]; omega)]
              rfl
        rw [hb]
        rfl
      · unfold p_X12_count
        rw [z1, if_pos rfl, z2, if_pos rfl, if_neg c0, if_neg c1, if_neg c2, if_neg c3, if_neg c4, if_neg c5, if_neg c6, if_neg c7, if_neg c8, if_neg c9]
