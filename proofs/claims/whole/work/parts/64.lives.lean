/-! ===== tables of lives, discounts ===== -/
def lvs (r : Nat → Int32) (T A : Nat) : Int32 := if A < 110 then r (12 * T + A / 10) - (r (12 * T + A / 10) - r (12 * T + A / 10 + 1)) * nI (A % 10) / 10 else 0
theorem lit_nI (n : Nat) : (OfNat.ofNat n : Int32) = nI n := rfl
theorem x6_livesAt {I : gIt} {T A : Nat} (hT : T < 4) (hA : A < 2 ^ 30) : p_X6_livesAt I (nI T) (nI A) = some (lvs (I 10) T A) := by
  unfold p_X6_livesAt gL
  rw [if_neg (nI_pos (by omega)), if_neg (show ¬ (4 : Int32) ≤ nI T from nI_ge (b := 4) hT (by omega)), if_neg (nI_pos (by omega))]
  by_cases h : A < 110
  · rw [if_pos (show nI A < (110 : Int32) from nI_lt (b := 110) h (by omega))]
    have e1 : nI T * 12 + nI A / 10 = nI (12 * T + A / 10) := by
      show nI T * nI 12 + nI A / nI 10 = _
      rw [pk_mul, pk_div (by omega) (by omega) (by omega), nI_add, Nat.mul_comm]
    have e2 : nI (12 * T + A / 10) + 1 = nI (12 * T + A / 10 + 1) := nI_1 _
    have e3 : grem (nI A) 10 = nI (A % 10) := pk_rem (d := 10) (by omega) (by omega) (by omega)
    rw [e1]
    dsimp only
    rw [e2, e3, gck_t (gin_nI (by omega) (by omega)), gck_t (gin_nI (by omega) (by omega)), gck_t (gin_nI (by omega) (by omega)), nI_clamp (by omega), nI_clamp (by omega)]
    unfold lvs
    rw [if_pos h]
  · rw [if_neg (show ¬ nI A < (110 : Int32) from nI_nlt (b := 110) (by omega) (by omega))]
    unfold lvs
    rw [if_neg h]
theorem x12_livesAt {I : gIt} {T A : Nat} (hT : T < 4) (hA : A < 2 ^ 30) : p_X12_livesAt I (nI T) (nI A) = some (lvs (I 156) T A) := by
  unfold p_X12_livesAt gL
  by_cases h : A < 110
  · rw [if_pos (show nI A < (110 : Int32) from nI_lt (b := 110) h (by omega))]
    have e1 : 12 * nI T + nI A / 10 = nI (12 * T + A / 10) := by
      show nI 12 * nI T + nI A / nI 10 = _
      rw [pk_mul, pk_div (by omega) (by omega) (by omega), nI_add]
    have e2 : nI (12 * T + A / 10) + 1 = nI (12 * T + A / 10 + 1) := nI_1 _
    have e3 : grem (nI A) 10 = nI (A % 10) := pk_rem (d := 10) (by omega) (by omega) (by omega)
    rw [e1]
    dsimp only
    rw [e2, e3, gck_t (gin_nI (by omega) (by omega)), gck_t (gin_nI (by omega) (by omega)), gck_t (gin_nI (by omega) (by omega)), nI_clamp (by omega), nI_clamp (by omega)]
    unfold lvs
    rw [if_pos h]
  · rw [if_neg (show ¬ nI A < (110 : Int32) from nI_nlt (b := 110) (by omega) (by omega))]
    unfold lvs
    rw [if_neg h]
theorem lvs_eq {I : gIt} (h : ∀ k i, k < 4 → i < 12 → iTab1 I k i) {T A : Nat} (hT : T < 4) : lvs (I 156) T A = lvs (I 10) T A := by
  unfold lvs
  by_cases hA : A < 110
  · rw [if_pos hA, if_pos hA, (h T (A / 10) hT (by omega)).1, Nat.add_assoc, (h T (A / 10 + 1) hT (by omega)).1]
  · rw [if_neg hA, if_neg hA]
theorem EE4 : EE_4 gInv := by
  intro I J w x1 x2 hI
  obtain ⟨P, ns, nS, nC, nP, nT, hs, hr⟩ := id hI
  by_cases c : (0 ≤ x1.toInt ∧ x1.toInt ≤ 3) ∧ (0 ≤ x2.toInt ∧ x2.toInt ≤ 400)
  · obtain ⟨T, hT, rfl, t1⟩ := i_of c.1.1
    obtain ⟨A, hA, rfl, t2⟩ := i_of c.2.1
    refine EEr (lvs (I 10) T A) ?_ ?_ hI
    · unfold p_X11_lives
      simp only [Int32.lt_iff_toInt_lt, Int32.le_iff_toInt_le, Int32.reduceToInt]
      rw [if_neg (by omega), if_neg (by omega), if_neg (by omega), if_pos (by omega), x6_livesAt (by omega) (by omega)]
      rfl
    · unfold p_X12_lives
      rw [lies_y _ (by simp only [i32_toInt64, Int64.reduceToInt]; omega), if_neg (by decide), lies_y _ (by simp only [i32_toInt64, Int64.reduceToInt]; omega), if_neg (by decide), x12_livesAt (by omega) (by omega), lvs_eq hr.2.1 (by omega)]
      rfl
  · refine EEr (-1) ?_ ?_ hI
    · unfold p_X11_lives
      simp only [Int32.lt_iff_toInt_lt, Int32.le_iff_toInt_le, Int32.reduceToInt]
      by_cases d1 : x1.toInt < 0
      · rw [if_pos d1]
      · rw [if_neg d1]
        by_cases d2 : 4 ≤ x1.toInt
        · rw [if_pos d2]
        · rw [if_neg d2]
          by_cases d3 : x2.toInt < 0
          · rw [if_pos d3]
          · rw [if_neg d3, if_neg (by omega)]
    · unfold p_X12_lives
      by_cases d1 : 0 ≤ x1.toInt ∧ x1.toInt ≤ 3
      · rw [lies_y _ (by simp only [i32_toInt64, Int64.reduceToInt]; omega), if_neg (by decide), lies_n _ (by simp only [i32_toInt64, Int64.reduceToInt]; omega), if_pos rfl]
      · rw [lies_n _ (by simp only [i32_toInt64, Int64.reduceToInt]; omega), if_pos rfl]
/-- DISCOUNT of k years by the interest r -/
def dsc (r : Nat) : Nat → Nat
  | 0 => 1000000
  | k + 1 => 100 * dsc r k / (100 + r)
theorem dsc_le (r k : Nat) : dsc r k ≤ 1000000 := by
  induction k with
  | zero => exact Nat.le_refl _
  | succ k ih =>
    unfold dsc
    rw [Nat.div_le_iff_le_mul (by omega)]
    have : 1000000 * 100 ≤ 1000000 * (100 + r) := Nat.mul_le_mul_left _ (by omega)
    omega
theorem x6_discounted {I : gIt} {r d : Nat} (hr : r ≤ 20) (hi : I 9 1 = nI r) (hd : d ≤ 1000000) : p_X6_discounted I (lN d) = some (lN (100 * d / (100 + r))) := by
  unfold p_X6_discounted gL
  have e1 : 100 + I 9 1 = nI (100 + r) := by rw [hi]; show nI 100 + nI r = _; rw [nI_add]
  rw [e1]
  dsimp only
  rw [if_neg (show ¬ nI (100 + r) ≤ 0 from nI_nle (by omega) (by omega)), nI_l (by omega)]
  have e2 : decide (¬ lN (100 + r) = 0) = true := by
    rw [decide_eq_true_eq]
    intro q
    have : lN (100 + r) = lN 0 := q
    rw [lN_eq (by omega) (by omega)] at this
    omega
  have e3 : lN d * 100 = lN (100 * d) := by
    show lN d * lN 100 = _
    rw [lN_mul, Nat.mul_comm]
  rw [gck_t e2, e3, pk_lDiv (by omega) (by omega) (by omega)]
theorem x6_disc_loop {I : gIt} {r x : Nat} (hr : r ≤ 20) (hi : I 9 1 = nI r) (hx : x ≤ 400) : ∀ (m n k : Nat), k + m = x → m < n → p_X6_discountOf_7 I (nI x) n (lN (dsc r k)) (nI k) = some (nI (dsc r x)) := by
  intro m
  induction m with
  | zero =>
    intro n k hk hn
    obtain ⟨n, rfl⟩ : ∃ q, n = q + 1 := ⟨n - 1, by omega⟩
    unfold p_X6_discountOf_7
    rw [if_pos (nI_le (by omega) (by omega))]
    have : k = x := by omega
    subst this
    rw [lN_i]
  | succ m ih =>
    intro n k hk hn
    obtain ⟨n, rfl⟩ : ∃ q, n = q + 1 := ⟨n - 1, by omega⟩
    unfold p_X6_discountOf_7
    rw [if_neg (nI_ge (by omega) (by omega)), x6_discounted hr hi (dsc_le r k)]
    show p_X6_discountOf_7 I (nI x) n (lN (dsc r (k + 1))) (nI k + 1) = _
    rw [nI_1]
    exact ih n (k + 1) (by omega) (by omega)
theorem x12_disc_loop {I : gIt} {r x : Nat} (hr : r ≤ 20) (hi : I 149 8 = nI r) (hx : x ≤ 400) : ∀ (m n k : Nat), k + m = x → m < n → p_X12_discountOf_5 I (nI x) n (nI (dsc r k)) (nI k) = some (nI (dsc r x)) := by
  intro m
  induction m with
  | zero =>
    intro n k hk hn
    obtain ⟨n, rfl⟩ : ∃ q, n = q + 1 := ⟨n - 1, by omega⟩
    unfold p_X12_discountOf_5
    rw [if_pos (nI_le (by omega) (by omega))]
    have : k = x := by omega
    subst this
    rfl
  | succ m ih =>
    intro n k hk hn
    obtain ⟨n, rfl⟩ : ∃ q, n = q + 1 := ⟨n - 1, by omega⟩
    unfold p_X12_discountOf_5 gL
    have h1 := dsc_le r k
    have e1 : 100 + I 149 8 = nI (100 + r) := by rw [hi]; show nI 100 + nI r = _; rw [nI_add]
    have e2 : 100 * nI (dsc r k) = nI (100 * dsc r k) := by show nI 100 * _ = _; rw [pk_mul]
    have e3 : decide (¬ nI (100 + r) = 0) = true := by
      rw [decide_eq_true_eq]
      exact nI_ne0 (by omega) (by omega)
    rw [if_neg (nI_ge (by omega) (by omega)), e1, e2, gck_t e3, pk_div (by omega) (by omega) (by omega)]
    show p_X12_discountOf_5 I (nI x) n (nI (dsc r (k + 1))) (nI k + 1) = _
    rw [nI_1]
    exact ih n (k + 1) (by omega) (by omega)
theorem EE6 : EE_6 gInv := by
  intro I J w x1 hI
  obtain ⟨P, ns, nS, nC, nP, nT, hs, hr⟩ := id hI
  obtain ⟨a1, a2, a3, a4, a5, a6, a7, ⟨b1, b2, b3⟩, a9⟩ := id hs
  obtain ⟨r, -, e, t⟩ := i_of b2
  by_cases c : 0 ≤ x1.toInt ∧ x1.toInt ≤ 400
  · obtain ⟨k, hk, rfl, t1⟩ := i_of c.1
    refine EEr (nI (dsc r k)) ?_ ?_ hI
    · unfold p_X11_discount
      simp only [Int32.lt_iff_toInt_lt, Int32.le_iff_toInt_le, Int32.reduceToInt]
      rw [if_neg (by omega), if_pos (by omega)]
      unfold p_X6_discountOf
      have := x6_disc_loop (I := I) (r := r) (x := k) (by omega) e (by omega) k gFu 0 (by omega) (by unfold gFu; omega)
      rw [show p_X6_discountOf_7 I (nI k) gFu 1000000 0 = some (nI (dsc r k)) from this]
      rfl
    · unfold p_X12_discount
      rw [lies_y _ (by simp only [i32_toInt64, Int64.reduceToInt]; omega), if_neg (by decide)]
      unfold p_X12_discountOf
      have := x12_disc_loop (I := I) (r := r) (x := k) (by omega) (b1.trans e) (by omega) k gFu 0 (by omega) (by unfold gFu; omega)
      rw [show p_X12_discountOf_5 I (nI k) gFu 1000000 0 = some (nI (dsc r k)) from this]
      rfl
  · refine EEr (-1) ?_ ?_ hI
    · unfold p_X11_discount
      simp only [Int32.lt_iff_toInt_lt, Int32.le_iff_toInt_le, Int32.reduceToInt]
      by_cases d1 : x1.toInt < 0
      · rw [if_pos d1]
      · rw [if_neg d1, if_neg (by omega)]
    · unfold p_X12_discount
      rw [lies_n _ (by simp only [i32_toInt64, Int64.reduceToInt]; omega), if_pos rfl]
