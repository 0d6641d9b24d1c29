/-! ===== falseOnes ===== -/
def fls (I : gIt) (o : Nat) : Bool := decide (¬ I 7 o = -1 ∧ ((I 7 o).toInt < (I 2 o).toInt ∨ (¬ I 5 o = -1 ∧ (I 5 o).toInt < (I 8 o).toInt)))
theorem x7_isFalse {I : gIt} {P k : Nat} (hP : P ≤ 16) (h : I 1 7 = nI P) (hk : k < P) : p_X7_isFalse I (nI k) = some (if fls I k then 1 else 0) := by
  unfold p_X7_isFalse
  have g : gin (nI k) 16 = true := gin_nI (by omega) (by omega)
  rw [gB_y _ (x7_has I hP h _) (in_y hk (by omega)), if_neg (by decide), gck_t g, nI_clamp (by omega)]
  simp only [gck_t g, Int32.lt_iff_toInt_lt, Int32.le_iff_toInt_le]
  unfold fls
  by_cases c1 : I 7 k = -1
  · simp [c1]
  · rw [if_neg c1]
    by_cases c2 : (I 7 k).toInt < (I 2 k).toInt
    · simp [c1, c2]
    · rw [if_neg c2]
      by_cases c3 : I 5 k = -1
      · simp [c2, c3]
      · rw [if_neg c3]
        by_cases c4 : (I 8 k).toInt ≤ (I 5 k).toInt
        · rw [if_pos c4]
          have : ¬ (I 5 k).toInt < (I 8 k).toInt := by omega
          simp [c2, this]
        · rw [if_neg c4]
          have : (I 5 k).toInt < (I 8 k).toInt := by omega
          simp [c1, c3, this]
theorem gM_s1 (p : Nat → Bool) {n : Nat} (h : p n = true) : gM p n ||| 2 ^ n = gM p (n + 1) := by show _ = gM p n ||| if p n then 2 ^ n else 0; rw [if_pos h]
theorem gM_s0 (p : Nat → Bool) {n : Nat} (h : ¬ p n = true) : gM p n = gM p (n + 1) := by show _ = gM p n ||| if p n then 2 ^ n else 0; rw [if_neg h, Nat.or_zero]
theorem x11_false_loop {I : gIt} {P : Nat} (hP : P ≤ 16) (h : I 1 7 = nI P) : ∀ (m f k : Nat), k + m = P → m < f → p_X11_falseOnes_4 I f (nI (gM (fls I) k)) (nI k) = some (nI (gM (fls I) P)) := by
  intro m
  induction m with
  | zero =>
    intro f k hk hf
    obtain ⟨f, rfl⟩ : ∃ q, f = q + 1 := ⟨f - 1, by omega⟩
    unfold p_X11_falseOnes_4
    rw [h, if_pos (nI_le (by omega) (by omega)), show k = P by omega]
  | succ m ih =>
    intro f k hk hf
    obtain ⟨f, rfl⟩ : ∃ q, f = q + 1 := ⟨f - 1, by omega⟩
    unfold p_X11_falseOnes_4
    have c16 : ¬ (16 : Int32) ≤ nI k := nI_ge (b := 16) (by omega) (by omega)
    rw [h, if_neg (nI_ge (by omega) (by omega)), if_neg c16, x7_isFalse hP h (by omega)]
    by_cases c : fls I k = true
    · rw [if_pos c]
      show gL _ _ = _
      unfold gL
      rw [shl1 (by omega), nI_or, gM_s1 _ c, nI_1]
      exact ih f (k + 1) (by omega) (by omega)
    · rw [if_neg c]
      show p_X11_falseOnes_4 I f (nI (gM (fls I) k)) (nI k + 1) = _
      rw [nI_1, gM_s0 _ c]
      exact ih f (k + 1) (by omega) (by omega)
def pbad (I : gIt) (j o : Nat) : Prop := I 192 j = nI o ∧ ((I 193 j).toInt < (I 2 o).toInt ∨ (¬ I 5 o = -1 ∧ (I 5 o).toInt < (I 193 j).toInt))
theorem tb_set (m j i : Nat) : (m ||| 2 ^ j).testBit i = true ↔ (m.testBit i = true ∨ i = j) := by
  rw [Nat.testBit_or, Nat.testBit_two_pow, Bool.or_eq_true, decide_eq_true_eq]
  constructor
  · rintro (h | h)
    · exact Or.inl h
    · exact Or.inr h.symm
  · rintro (h | h)
    · exact Or.inl h
    · exact Or.inr h.symm
theorem or_lt16 {a k : Nat} (h : a < 65536) (hk : k < 16) : a ||| 2 ^ k < 65536 := Nat.or_lt_two_pow (n := 16) h (Nat.pow_lt_pow_right (by omega) hk)
theorem x12_false_loop {I : gIt} {P nP : Nat} (hP : P ≤ 16) (hn : nP ≤ 100) (h : I 149 7 = nI nP) (hp : ∀ o, o < P → iPer1 I o) (hq : ∀ k, k < nP → ∃ o, o < P ∧ I 192 k = nI o) : ∀ (m f k a : Nat), k + m = nP → m < f → a < 65536 → (∀ o, o < 16 → (a.testBit o = true ↔ ∃ j, j < k ∧ pbad I j o)) → ∃ b, b < 65536 ∧ (∀ o, o < 16 → (b.testBit o = true ↔ ∃ j, j < nP ∧ pbad I j o)) ∧ p_X12_falseOnes_4 I f (nI a) (nI k) = some (nI b) := by
  intro m
  induction m with
  | zero =>
    intro f k a hk hf ha hb
    obtain ⟨f, rfl⟩ : ∃ q, f = q + 1 := ⟨f - 1, by omega⟩
    have : k = nP := by omega
    subst this
    refine ⟨a, ha, hb, ?_⟩
    unfold p_X12_falseOnes_4
    rw [h, if_pos (nI_le (by omega) (by omega))]
  | succ m ih =>
    intro f k a hk hf ha hb
    obtain ⟨f, rfl⟩ : ∃ q, f = q + 1 := ⟨f - 1, by omega⟩
    obtain ⟨o, ho, eo⟩ := hq k (by omega)
    obtain ⟨⟨e1, e2, e3, e4⟩, -⟩ := hp o ho
    have g : gin (nI k) 100 = true := gin_nI (by omega) (by omega)
    have g2 : gin (nI o) 16 = true := gin_nI (by omega) (by omega)
    have step : ∀ x, x < 16 → ((∃ j, j < k + 1 ∧ pbad I j x) ↔ ((∃ j, j < k ∧ pbad I j x) ∨ (pbad I k x))) := by
      intro x hx
      constructor
      · rintro ⟨j, hj, q⟩
        by_cases e : j = k
        · rw [e] at q; exact Or.inr q
        · exact Or.inl ⟨j, by omega, q⟩
      · rintro (⟨j, hj, q⟩ | q)
        · exact ⟨j, by omega, q⟩
        · exact ⟨k, by omega, q⟩
    have yes : pbad I k o → ∃ b, b < 65536 ∧ (∀ o, o < 16 → (b.testBit o = true ↔ ∃ j, j < nP ∧ pbad I j o)) ∧ p_X12_falseOnes_4 I f (nI (a ||| 2 ^ o)) (nI (k + 1)) = some (nI b) := fun q => by
      refine ih f (k + 1) (a ||| 2 ^ o) (by omega) (by omega) (or_lt16 ha (by omega)) (fun x hx => ?_)
      rw [step x hx, tb_set, hb x hx]
      constructor
      · rintro (z | z)
        · exact Or.inl z
        · rw [z]; exact Or.inr q
      · rintro (z | z)
        · exact Or.inl z
        · have := z.1
          rw [eo, nI_eq (by omega) (by omega)] at this
          exact Or.inr this.symm
    have no : ¬ pbad I k o → ∃ b, b < 65536 ∧ (∀ o, o < 16 → (b.testBit o = true ↔ ∃ j, j < nP ∧ pbad I j o)) ∧ p_X12_falseOnes_4 I f (nI a) (nI (k + 1)) = some (nI b) := fun q => by
      refine ih f (k + 1) a (by omega) (by omega) ha (fun x hx => ?_)
      rw [step x hx, hb x hx]
      constructor
      · exact Or.inl
      · rintro (z | z)
        · exact z
        · have := z.1
          rw [eo, nI_eq (by omega) (by omega)] at this
          rw [this] at q
          exact absurd z q
    unfold p_X12_falseOnes_4 gL
    rw [h, if_neg (nI_ge (by omega) (by omega)), gck_t g, nI_clamp (by omega), eo]
    dsimp only
    rw [gck_t g, gck_t g2, nI_clamp (by omega), e1, e4, shl1 (by omega), nI_or, nI_1]
    simp only [gck_t g, gck_t g2, Int32.lt_iff_toInt_lt, Int32.le_iff_toInt_le]
    by_cases c1 : (I 193 k).toInt < (I 2 o).toInt
    · rw [if_pos c1]
      exact yes ⟨eo, Or.inl c1⟩
    · rw [if_neg c1]
      by_cases c2 : I 5 o = -1
      · rw [if_pos c2]
        exact no (fun z => by rcases z.2 with z | z; exact c1 z; exact z.1 c2)
      · rw [if_neg c2]
        by_cases c3 : (I 193 k).toInt ≤ (I 5 o).toInt
        · rw [if_pos c3]
          exact no (fun z => by rcases z.2 with z | z; exact c1 z; omega)
        · rw [if_neg c3]
          exact yes ⟨eo, Or.inr ⟨c2, by omega⟩⟩
theorem EE25 : EE_25 gInv := by
  intro I J w hI
  obtain ⟨P, ns, nS, nC, nP, nT, hs, hr⟩ := id hI
  obtain ⟨⟨y1, y2, y3⟩, ⟨b1, b1', b1''⟩, ⟨b2, b2', b2''⟩, b3, b4, ⟨b5, b5', b5''⟩, b6⟩ := id hs
  obtain ⟨b, hb, hbt, e⟩ := x12_false_loop b1'' b5'' b5' hr.1 (fun k hk => (hr.2.2.2.2.2.1 k hk).1) nP gFu 0 0 (by omega) (by unfold gFu; omega) (by omega) (fun o _ => by
    rw [Nat.zero_testBit]
    constructor
    · intro q; exact absurd q (by decide)
    · rintro ⟨j, hj, -⟩; omega)
  refine EEr (nI (gM (fls I) P)) ?_ ?_ hI
  · exact x11_false_loop b1'' b1 P gFu 0 (by omega) (by unfold gFu; omega)
  · show p_X12_falseOnes_4 I gFu 0 0 = _
    rw [show p_X12_falseOnes_4 I gFu 0 0 = some (nI b) from e]
    congr 2
    apply tb_ext (n := 16) hb (Nat.lt_of_lt_of_le (gM_lt _ _) (Nat.pow_le_pow_right (by omega) b1''))
    intro o ho
    rw [Bool.eq_iff_iff, hbt o ho, gM_tb, Bool.and_eq_true, decide_eq_true_eq]
    unfold fls
    rw [decide_eq_true_eq]
    constructor
    · rintro ⟨j, hj, q1, q2⟩
      obtain ⟨⟨o', ho', eo'⟩, -⟩ := hr.2.2.2.2.2.1 j hj
      have : o = o' := by rw [eo', nI_eq (by omega) (by omega)] at q1; omega
      subst this
      rcases hr.2.2.2.2.2.2.1 o ho' with ⟨-, -, z⟩ | ⟨⟨a1, ha1, ea1, va1⟩, ⟨a2, ha2, ea2, va2⟩, z⟩
      · exact absurd q1 (z j hj)
      · have n7 : ¬ I 7 o = -1 := fun q => by
          have := (hr.2.2.2.2.2.1 a1 ha1).2
          rw [va1, q] at this
          exact absurd this (by decide)
        have := z j hj q1
        refine ⟨ho', n7, ?_⟩
        rcases q2 with q2 | q2
        · exact Or.inl (by omega)
        · exact Or.inr ⟨q2.1, by omega⟩
    · rintro ⟨ho', n7, q⟩
      rcases hr.2.2.2.2.2.2.1 o ho' with ⟨z, -, -⟩ | ⟨⟨a1, ha1, ea1, va1⟩, ⟨a2, ha2, ea2, va2⟩, z⟩
      · exact absurd z n7
      · rcases q with q | q
        · exact ⟨a1, ha1, ea1, Or.inl (by rw [va1]; exact q)⟩
        · exact ⟨a2, ha2, ea2, Or.inr ⟨q.1, by rw [va2]; exact q.2⟩⟩
/-! ===== table ===== -/
theorem EE3 : EE_3 gInv := by
  intro I J w x1 x2 x3 hI
  obtain ⟨P, ns, nS, nC, nP, nT, hs, hr⟩ := id hI
  have b2'' := hs.2.2.1.2.2
  by_cases c0 : (0 ≤ x1.toInt ∧ x1.toInt ≤ 3) ∧ (0 ≤ x2.toInt ∧ x2.toInt ≤ 10) ∧ (0 ≤ x3.toInt ∧ x3.toInt ≤ 200)
  · obtain ⟨c1, c2, c3⟩ := c0
    obtain ⟨T, -, rfl, t1⟩ := i_of c1.1
    obtain ⟨i, -, rfl, t2⟩ := i_of c2.1
    have hT : T < 4 := by omega
    have hi : i < 11 := by omega
    have r0 := hr.2.1 T i hT (by omega)
    have r1 := hr.2.1 T (i + 1) hT (by omega)
    have e1 : nI T * 12 + nI i = nI (12 * T + i) := by show nI T * nI 12 + nI i = _; rw [pk_mul, nI_add, Nat.mul_comm]
    have e1' : 12 * nI T + nI i = nI (12 * T + i) := by show nI 12 * nI T + nI i = _; rw [pk_mul, nI_add]
    have e2 : nI (12 * T + i) + 1 = nI (12 * T + i + 1) := nI_1 _
    by_cases c4 : (0 < i → x3.toInt ≤ (I 10 (12 * T + i - 1)).toInt) ∧ (I 10 (12 * T + i + 1)).toInt ≤ x3.toInt
    · refine EEw (g := fun I => p_X12_table I (nI T) (nI i) x3) 1 (gu2 I 10 (12 * T + i) x3) (gu2 (gu2 I 10 (12 * T + i) x3) 156 (12 * T + i) x3) ?_ ?_ ?_
      · unfold p_X11_table p_X6_put
        simp only [Int32.lt_iff_toInt_lt, Int32.le_iff_toInt_le, Int32.reduceToInt]
        rw [if_neg (by omega), if_neg (by omega), if_neg (by omega), if_neg (by omega), if_neg (by omega), if_pos (by omega)]
        unfold gL
        rw [e1]
        dsimp only
        rw [e2, gck_t (gin_nI (by omega) (by omega)), gck_t (gin_nI (by omega) (by omega)), nI_clamp (by omega), nI_clamp (by omega), if_pos c4.2]
        by_cases h0 : i = 0
        · rw [if_pos (by omega)]
          rfl
        · rw [if_neg (by omega), show nI (12 * T + i) - 1 = nI (12 * T + i - 1) from pk_sub (b := 1) (by omega), gck_t (gin_nI (by omega) (by omega)), nI_clamp (by omega), if_neg (by have := c4.1 (by omega); omega)]
          rfl
      · generalize hI1 : gu2 I 10 (12 * T + i) x3 = I1
        have f : ∀ j, I1 156 j = I 156 j := fun j => by rw [← hI1]; exact gu_rd (by decide)
        have f1 : I 156 (12 * T + i + 1) = I 10 (12 * T + i + 1) := r1.1
        show p_X12_table I1 (nI T) (nI i) x3 = _
        unfold p_X12_table gL
        rw [lies_y _ (by simp only [i32_toInt64, Int64.reduceToInt]; omega), if_neg (by decide), lies_y _ (by simp only [i32_toInt64, Int64.reduceToInt]; omega), if_neg (by decide), lies_y _ (by simp only [i32_toInt64, Int64.reduceToInt]; omega), if_neg (by decide), e1']
        dsimp only
        simp only [Int32.lt_iff_toInt_lt, Int32.le_iff_toInt_le, Int32.reduceToInt]
        rw [e2, gck_t (gin_nI (by omega) (by omega)), gck_t (gin_nI (by omega) (by omega)), nI_clamp (by omega), nI_clamp (by omega), f, f1, if_pos c4.2]
        by_cases h0 : i = 0
        · rw [if_pos (by omega)]
        · have f0 : I 156 (12 * T + i - 1) = I 10 (12 * T + i - 1) := by
            have := (hr.2.1 T (i - 1) hT (by omega)).1
            rw [show 12 * T + (i - 1) = 12 * T + i - 1 by omega] at this
            exact this
          rw [if_neg (by omega), show nI (12 * T + i) - 1 = nI (12 * T + i - 1) from pk_sub (b := 1) (by omega), gck_t (gin_nI (by omega) (by omega)), nI_clamp (by omega), f, f0, if_neg (by have := c4.1 (by omega); omega)]
      · refine ⟨P, ns, nS, nC, nP, nT, hs, hr.1, fun k j hk hj => ?_, hr.2.2.1, fun i' hi' => ?_, hr.2.2.2.2.1, hr.2.2.2.2.2.1, hr.2.2.2.2.2.2.1, fun s hs' => ?_, hr.2.2.2.2.2.2.2.2.1, ?_⟩
        · have q := hr.2.1 k j hk hj
          unfold iTab1 at q ⊢
          simp only [gu_rd, ne_eq, Nat.reduceEqDiff, not_false_eq_true, gu_sl]
          by_cases hkj : 12 * k + j = 12 * T + i
          · have ek : k = T := by omega
            have ej : j = i := by omega
            subst ek
            subst ej
            simp only [if_true]
            rw [if_neg (by omega)]
            exact ⟨trivial, c3.1, c3.2, fun _ => c4.2, fun q => by omega⟩
          · rw [if_neg hkj]
            rw [if_neg hkj]
            refine ⟨q.1, q.2.1, q.2.2.1, fun h11 => ?_, q.2.2.2.2⟩
            by_cases hkj2 : 12 * k + j + 1 = 12 * T + i
            · rw [if_pos hkj2]
              have := c4.1 (by omega)
              rw [show 12 * k + j = 12 * T + i - 1 by omega]
              exact this
            · rw [if_neg hkj2]
              exact q.2.2.2.1 h11
        · exact iSal1_c (I := I) (I' := gu2 (gu2 I 10 (12 * T + i) x3) 156 (12 * T + i) x3) (fun x hx => by rw [gu2_ne (by omega), gu2_ne (by omega)]) (Int.le_refl _) (Nat.le_refl _) (Nat.le_refl _) b2'' (hr.2.2.2.1 i' hi')
        · exact iSet1_c (I := I) (I' := gu2 (gu2 I 10 (12 * T + i) x3) 156 (12 * T + i) x3) (fun x hx => by rw [gu2_ne (by omega), gu2_ne (by omega)]) (Nat.le_refl _) (by omega) (hr.2.2.2.2.2.2.2.1 s hs')
        · rcases hr.2.2.2.2.2.2.2.2.2 with q | ⟨q, q2⟩
          · exact Or.inl q
          · exact Or.inr ⟨q, iAct1_c (I := I) (by cases w <;> rfl) (by cases w <;> rfl) rfl rfl rfl q2⟩
    · refine EEw (g := fun I => p_X12_table I (nI T) (nI i) x3) 0 I I ?_ ?_ hI
      · unfold p_X11_table p_X6_put
        simp only [Int32.lt_iff_toInt_lt, Int32.le_iff_toInt_le, Int32.reduceToInt]
        rw [if_neg (by omega), if_neg (by omega), if_neg (by omega), if_neg (by omega), if_neg (by omega), if_pos (by omega)]
        unfold gL
        rw [e1]
        dsimp only
        rw [e2, gck_t (gin_nI (by omega) (by omega)), gck_t (gin_nI (by omega) (by omega)), nI_clamp (by omega), nI_clamp (by omega)]
        by_cases h0 : i = 0
        · rw [if_pos (by omega), if_neg (fun q => c4 ⟨fun z => by omega, q⟩)]
          rfl
        · rw [if_neg (by omega), show nI (12 * T + i) - 1 = nI (12 * T + i - 1) from pk_sub (b := 1) (by omega), gck_t (gin_nI (by omega) (by omega)), nI_clamp (by omega)]
          by_cases d : (I 10 (12 * T + i - 1)).toInt < x3.toInt
          · rw [if_pos d]; rfl
          · rw [if_neg d, if_neg (fun q => c4 ⟨fun z => by omega, q⟩)]
            rfl
      · have f1 : I 156 (12 * T + i + 1) = I 10 (12 * T + i + 1) := r1.1
        show p_X12_table I (nI T) (nI i) x3 = _
        unfold p_X12_table gL
        rw [lies_y _ (by simp only [i32_toInt64, Int64.reduceToInt]; omega), if_neg (by decide), lies_y _ (by simp only [i32_toInt64, Int64.reduceToInt]; omega), if_neg (by decide), lies_y _ (by simp only [i32_toInt64, Int64.reduceToInt]; omega), if_neg (by decide), e1']
        dsimp only
        simp only [Int32.lt_iff_toInt_lt, Int32.le_iff_toInt_le, Int32.reduceToInt]
        rw [e2, gck_t (gin_nI (by omega) (by omega)), gck_t (gin_nI (by omega) (by omega)), nI_clamp (by omega), nI_clamp (by omega), f1]
        by_cases h0 : i = 0
        · rw [if_pos (by omega), if_neg (fun q => c4 ⟨fun z => by omega, q⟩)]
        · have f0 : I 156 (12 * T + i - 1) = I 10 (12 * T + i - 1) := by
            have := (hr.2.1 T (i - 1) hT (by omega)).1
            rw [show 12 * T + (i - 1) = 12 * T + i - 1 by omega] at this
            exact this
          rw [if_neg (by omega), show nI (12 * T + i) - 1 = nI (12 * T + i - 1) from pk_sub (b := 1) (by omega), gck_t (gin_nI (by omega) (by omega)), nI_clamp (by omega), f0]
          by_cases d : (I 10 (12 * T + i - 1)).toInt < x3.toInt
          · rw [if_pos d]
          · rw [if_neg d, if_neg (fun q => c4 ⟨fun z => by omega, q⟩)]
  · refine EEw (g := fun I => p_X12_table I x1 x2 x3) 0 I I ?_ ?_ hI
    · unfold p_X11_table p_X6_put
      simp only [Int32.lt_iff_toInt_lt, Int32.le_iff_toInt_le, Int32.reduceToInt]
      by_cases d1 : x1.toInt < 0
      · rw [if_pos d1]; rfl
      rw [if_neg d1]
      by_cases d2 : 4 ≤ x1.toInt
      · rw [if_pos d2]; rfl
      rw [if_neg d2]
      by_cases d3 : x2.toInt < 0
      · rw [if_pos d3]; rfl
      rw [if_neg d3]
      by_cases d4 : 10 < x2.toInt
      · rw [if_pos d4]; rfl
      rw [if_neg d4]
      by_cases d5 : x3.toInt < 0
      · rw [if_pos d5]; rfl
      rw [if_neg d5, if_neg (by omega)]
      rfl
    · show p_X12_table I x1 x2 x3 = _
      unfold p_X12_table
      by_cases d1 : 0 ≤ x1.toInt ∧ x1.toInt ≤ 3
      · rw [lies_y _ (by simp only [i32_toInt64, Int64.reduceToInt]; omega), if_neg (by decide)]
        by_cases d2 : 0 ≤ x2.toInt ∧ x2.toInt ≤ 10
        · rw [lies_y _ (by simp only [i32_toInt64, Int64.reduceToInt]; omega), if_neg (by decide), lies_n _ (by simp only [i32_toInt64, Int64.reduceToInt]; omega), if_pos rfl]
        · rw [lies_n _ (by simp only [i32_toInt64, Int64.reduceToInt]; omega), if_pos rfl]
      · rw [lies_n _ (by simp only [i32_toInt64, Int64.reduceToInt]; omega), if_pos rfl]
