/-! ===== cover ===== -/
theorem lvs_bd {I : gIt} (h : ∀ k i, k < 4 → i < 12 → iTab1 I k i) {T : Nat} (hT : T < 4) (A : Nat) : ∃ n, n ≤ 200 ∧ lvs (I 10) T A = nI n := by
  unfold lvs
  by_cases c : A < 110
  · rw [if_pos c]
    obtain ⟨-, q1, q2, q3, -⟩ := h T (A / 10) hT (by omega)
    obtain ⟨-, q1', -⟩ := h T (A / 10 + 1) hT (by omega)
    have q4 := q3 (by omega)
    obtain ⟨a, -, ea, ta⟩ := i_of q1
    obtain ⟨b, -, eb, tb⟩ := i_of (x := I 10 (12 * T + A / 10 + 1)) q1'
    have hab : b ≤ a := by omega
    have hm : (a - b) * (A % 10) ≤ a * 10 := Nat.mul_le_mul (by omega) (by omega)
    refine ⟨a - (a - b) * (A % 10) / 10, by omega, ?_⟩
    rw [ea, eb, pk_sub hab, pk_mul, show nI ((a - b) * (A % 10)) / (10 : Int32) = nI ((a - b) * (A % 10) / 10) from pk_div (d := 10) (by omega) (by omega) (by omega), pk_sub (by omega)]
  · rw [if_neg c]
    exact ⟨0, by omega, rfl⟩
theorem lvs_0 (r : Nat → Int32) (T : Nat) {A : Nat} (h : 110 ≤ A) : lvs r T A = 0 := by unfold lvs; rw [if_neg (by omega)]
theorem age_of {x y : Int32} (h0 : 1600 ≤ x.toInt) (h1 : x.toInt ≤ y.toInt) (h2 : y.toInt ≤ 1999) : ∃ a : Nat, a ≤ 399 ∧ y - x = nI a := by
  obtain ⟨X, -, rfl, tx⟩ := i_of (x := x) (by omega)
  obtain ⟨Y, -, rfl, ty⟩ := i_of (x := y) (by omega)
  exact ⟨Y - X, by omega, pk_sub (by omega)⟩
def cvT (r : Nat → Int32) (T a b : Nat) (sum both : Int64) (i k : Nat) : Int64 := ((sum * Int32.toInt64 (lvs r T (a + k) - lvs r T (a + k + 1)) * Int32.toInt64 (lvs r T (b + k))) / both) * lN (dsc i (k + 1)) / 1000000
def cvS (r : Nat → Int32) (T a b : Nat) (sum both : Int64) (i : Nat) : Nat → Int64
  | 0 => 0
  | k + 1 => cvS r T a b sum both i k + cvT r T a b sum both i k
theorem cvS_up (r : Nat → Int32) (T a b : Nat) (sum both : Int64) (i : Nat) : ∀ d, cvS r T a b sum both i (110 + d) = cvS r T a b sum both i 110 := by
  intro d
  induction d with
  | zero => rfl
  | succ d ih =>
    show cvS r T a b sum both i (110 + d) + cvT r T a b sum both i (110 + d) = _
    rw [ih]
    unfold cvT
    rw [lvs_0 r T (by omega), lvs_0 r T (by omega)]
    have z : Int32.toInt64 ((0 : Int32) - 0) = 0 := rfl
    rw [z, Int64.mul_zero, Int64.zero_mul, Int64.zero_div, Int64.zero_mul, Int64.zero_div, Int64.add_zero]
theorem x6_cov {I : gIt} {T a b i : Nat} {sum both : Int64} (hT : T < 4) (ha : a ≤ 399) (hb : b ≤ 399) (hi : i ≤ 20) (ei : I 9 1 = nI i) (h0 : ¬ both = 0) : ∀ (d f k : Nat), k + d = 110 → d < f → p_X6_coverOf_39 I (nI T) (nI a) (nI b) sum both f (cvS (I 10) T a b sum both i k) (lN (dsc i k)) (nI k) = some (cvS (I 10) T a b sum both i 110) := by
  intro d
  induction d with
  | zero =>
    intro f k hk hf
    obtain ⟨f, rfl⟩ : ∃ q, f = q + 1 := ⟨f - 1, by omega⟩
    have : k = 110 := by omega
    subst this
    unfold p_X6_coverOf_39
    rw [if_pos (show (110 : Int32) ≤ nI 110 by decide)]
  | succ d ih =>
    intro f k hk hf
    obtain ⟨f, rfl⟩ : ∃ q, f = q + 1 := ⟨f - 1, by omega⟩
    unfold p_X6_coverOf_39
    rw [if_neg (show ¬ (110 : Int32) ≤ nI k from nI_ge (b := 110) (by omega) (by omega)), x6_discounted hi ei (dsc_le i k), gB_v, nI_add, nI_add, nI_1, nI_1, x6_livesAt hT (by omega), gB_v, x6_livesAt hT (by omega), gB_v, gL_b, x6_livesAt hT (by omega), gB_v, gck_t (decide_eq_true h0), gL_b, gL_b]
    exact ih f (k + 1) (by omega) (by omega)
theorem x12_cov {I : gIt} {T a b i : Nat} {sum : Int32} {both : Int64} (hT : T < 4) (ha : a ≤ 399) (hb : b ≤ 399) (hi : i ≤ 20) (ei : I 149 8 = nI i) (h0 : ¬ both = 0) (x1 x2 : Int32) : ∀ (d f k : Nat), k + d = 400 → d < f → p_X12_cover_152 I x1 x2 sum (nI T) (nI a) (nI b) both f (cvS (I 156) T a b (Int32.toInt64 sum) both i k) (nI (dsc i k)) (nI k) = some (cvS (I 156) T a b (Int32.toInt64 sum) both i 400) := by
  intro d
  induction d with
  | zero =>
    intro f k hk hf
    obtain ⟨f, rfl⟩ : ∃ q, f = q + 1 := ⟨f - 1, by omega⟩
    have : k = 400 := by omega
    subst this
    unfold p_X12_cover_152
    rw [if_pos (show (400 : Int32) ≤ nI 400 by decide)]
  | succ d ih =>
    intro f k hk hf
    obtain ⟨f, rfl⟩ : ∃ q, f = q + 1 := ⟨f - 1, by omega⟩
    have h1 := dsc_le i k
    have h2 := dsc_le i (k + 1)
    have e1 : 100 + I 149 8 = nI (100 + i) := by rw [ei]; show nI 100 + nI i = _; rw [nI_add]
    have e2 : 100 * nI (dsc i k) = nI (100 * dsc i k) := by show nI 100 * _ = _; rw [pk_mul]
    have e3 : decide (¬ nI (100 + i) = 0) = true := by
      rw [decide_eq_true_eq]
      exact nI_ne0 (by omega) (by omega)
    have e4 : nI (100 * dsc i k) / nI (100 + i) = nI (dsc i (k + 1)) := by rw [pk_div (by omega) (by omega) (by omega)]; rfl
    unfold p_X12_cover_152
    rw [if_neg (show ¬ (400 : Int32) ≤ nI k from nI_ge (b := 400) (by omega) (by omega)), e1, e2, gck_t e3, e4, gL_b, nI_add, nI_add, nI_1, nI_1, x12_livesAt hT (by omega), gB_v, x12_livesAt hT (by omega), gB_v, x12_livesAt hT (by omega), gB_v, gck_t (decide_eq_true h0), gL_b, gL_b, nI_l (by omega)]
    exact ih f (k + 1) (by omega) (by omega)
theorem cvS_cg {I : gIt} (h : ∀ k i, k < 4 → i < 12 → iTab1 I k i) {T a b i : Nat} {sum both : Int64} (hT : T < 4) : ∀ k, cvS (I 156) T a b sum both i k = cvS (I 10) T a b sum both i k := by
  intro k
  induction k with
  | zero => rfl
  | succ k ih =>
    unfold cvS cvT
    rw [ih, lvs_eq h hT, lvs_eq h hT, lvs_eq h hT]
theorem lgc_eq {a b : Int64} : lg_cmp a b = 0 ↔ a = b := by
  unfold lg_cmp
  by_cases h1 : a > b
  · rw [if_pos h1]
    constructor
    · intro q; exact absurd q (by decide)
    · intro q
      rw [q] at h1
      have := Int64.lt_iff_toInt_lt.mp h1
      omega
  · rw [if_neg h1]
    by_cases h2 : a = b
    · rw [if_pos h2]; simp [h2]
    · rw [if_neg h2]
      constructor
      · intro q; exact absurd q (by decide)
      · intro q; exact absurd q h2
theorem EE20 : EE_20 gInv := by
  intro I J w x1 x2 x3 hI
  obtain ⟨P, ns, nS, nC, nP, nT, hs, hr⟩ := id hI
  obtain ⟨⟨y1, y2, y3⟩, ⟨b1, b1', b1''⟩, ⟨b2, b2', b2''⟩, -, -, -, -, ⟨b8, b8', b8''⟩, -⟩ := id hs
  obtain ⟨i, -, ei, ti⟩ := i_of b8'
  by_cases c1 : 0 ≤ x1.toInt ∧ x1.toInt < ns
  · obtain ⟨s, -, rfl, ts⟩ := i_of c1.1
    have hs10 : s < 10 := by omega
    have gs : gin (nI s) 10 = true := gin_nI hs10 (by omega)
    have hset := hr.2.2.2.2.2.2.2.1 s (by omega)
    obtain ⟨-, ⟨e158, T, hT, eT⟩, ⟨e159, t1, t2⟩, -⟩ := id hset
    obtain ⟨tb, -, etb, ttb⟩ := i_of t1
    by_cases c2 : 0 ≤ x2.toInt ∧ x2.toInt < P
    · obtain ⟨o, -, rfl, to⟩ := i_of c2.1
      have g2 : gin (nI o) 16 = true := gin_nI (by omega) (by omega)
      have gT : gin (nI T) 16 = true := gin_nI (by omega) (by omega)
      have ko := x7_kd I b1'' b1 (k := o) (by omega) (I 0 14)
      have kT := x7_kd I b1'' b1 hT (I 0 14)
      have mo := x12_kd I (k := o) (by omega) (iPer_kd (hr.1 o (by omega))) (I 0 14)
      have mT := x12_kd I (k := T) (by omega) (iPer_kd (hr.1 T hT)) (I 0 14)
      by_cases c3 : 1 ≤ x3.toInt ∧ x3.toInt ≤ 100000
      · by_cases c4 : o = T
        · refine EEr (-1) ?_ ?_ hI
          · unfold p_X11_cover
            rw [x11_settlementOf b2'' b2, if_pos c1, nI_clamp (by omega)]
            show gB (p_X7_has I (nI o)) _ = _
            rw [gB_y _ (x7_has I b1'' b1 _) c2, if_neg (by decide), eT]
            simp only [Int32.lt_iff_toInt_lt, Int32.le_iff_toInt_le, Int32.reduceToInt, gL_b]
            rw [if_neg (by omega), if_pos (by omega), if_pos (by rw [c4])]
          · unfold p_X12_cover
            rw [gB_y _ (x12_isSettlement I b2'' b2' _) c1, if_neg (by decide), gB_y _ (x12_isPerson I b1'' b1' _) c2, if_neg (by decide), gck_t gs, nI_clamp (by omega), e158, eT, if_pos (by rw [c4])]
        · have c4' : ¬ nI o = nI T := fun q => c4 ((nI_eq (by omega) (by omega)).mp q)
          by_cases c5 : ¬ I 5 o = -1 ∧ (I 6 o).toInt ≤ (I 0 14).toInt
          · refine EEr (-1) ?_ ?_ hI
            · unfold p_X11_cover
              rw [x11_settlementOf b2'' b2, if_pos c1, nI_clamp (by omega)]
              show gB (p_X7_has I (nI o)) _ = _
              rw [gB_y _ (x7_has I b1'' b1 _) c2, if_neg (by decide), eT]
              simp only [Int32.lt_iff_toInt_lt, Int32.le_iff_toInt_le, Int32.reduceToInt, gL_b]
              rw [if_neg (by omega), if_pos (by omega), if_neg c4', gB_y _ (x7_has I b1'' b1 _) (in_y hT (by omega)), if_neg (by decide), gB_y _ ko c5, if_neg (by decide)]
            · unfold p_X12_cover
              rw [gB_y _ (x12_isSettlement I b2'' b2' _) c1, if_neg (by decide), gB_y _ (x12_isPerson I b1'' b1' _) c2, if_neg (by decide), gck_t gs, nI_clamp (by omega), e158, eT, if_neg c4', lies_y _ (by simp only [i32_toInt64, Int64.reduceToInt]; omega), if_neg (by decide), y1, gB_y _ mo c5, if_neg (by decide)]
          · by_cases c6 : ¬ I 5 T = -1 ∧ (I 6 T).toInt ≤ (I 0 14).toInt
            · refine EEr (-1) ?_ ?_ hI
              · unfold p_X11_cover
                rw [x11_settlementOf b2'' b2, if_pos c1, nI_clamp (by omega)]
                show gB (p_X7_has I (nI o)) _ = _
                rw [gB_y _ (x7_has I b1'' b1 _) c2, if_neg (by decide), eT]
                simp only [Int32.lt_iff_toInt_lt, Int32.le_iff_toInt_le, Int32.reduceToInt, gL_b]
                rw [if_neg (by omega), if_pos (by omega), if_neg c4', gB_y _ (x7_has I b1'' b1 _) (in_y hT (by omega)), if_neg (by decide), gB_n _ ko c5, if_pos rfl, gB_y _ kT c6, if_neg (by decide)]
              · unfold p_X12_cover
                rw [gB_y _ (x12_isSettlement I b2'' b2' _) c1, if_neg (by decide), gB_y _ (x12_isPerson I b1'' b1' _) c2, if_neg (by decide), gck_t gs, nI_clamp (by omega), e158, eT, if_neg c4', lies_y _ (by simp only [i32_toInt64, Int64.reduceToInt]; omega), if_neg (by decide), y1, gB_n _ mo c5, if_pos rfl, gck_t gs, gB_y _ mT c6, if_neg (by decide)]
            · have po := hr.1 o (by omega)
              have pT := hr.1 T hT
              obtain ⟨a, ha, ea⟩ := age_of (x := I 2 o) (y := I 0 14) po.2.1.1 (by have := po.2.1; omega) y3
              obtain ⟨b, hb, eb⟩ := age_of (x := I 2 T) (y := I 0 14) pT.2.1.1 (by have := pT.2.1; omega) y3
              obtain ⟨na, hna, ena⟩ := lvs_bd hr.2.1 (T := tb) (by omega) a
              obtain ⟨nb, hnb, enb⟩ := lvs_bd hr.2.1 (T := tb) (by omega) b
              have hnn : na * nb ≤ 200 * 200 := Nat.mul_le_mul hna hnb
              have eboth : Int32.toInt64 (lvs (I 10) tb a) * Int32.toInt64 (lvs (I 10) tb b) = lN (na * nb) := by rw [ena, enb, nI_l (by omega), nI_l (by omega), lN_mul]
              have key : ∃ v, p_X6_coverOf I (nI tb) (nI a) (nI b) (Int32.toInt64 x3) = some v ∧ (gB (p_X12_livesAt I (nI tb) (nI a)) fun r26 => gB (p_X12_livesAt I (nI tb) (nI b)) fun r28 => gL (((Int32.toInt64 r26) * (Int32.toInt64 r28))) fun u30 => if (lg_cmp u30 (0 : Int64)) = 0 then some (-1 : Int64) else p_X12_cover_152 I (nI s) (nI o) x3 (nI tb) (nI a) (nI b) u30 gFu (0 : Int64) (1000000 : Int32) (0 : Int32)) = some v := by
                unfold p_X6_coverOf
                rw [x6_livesAt (by omega) (by omega), gB_v, x6_livesAt (by omega) (by omega), gB_v, gL_b, eboth, x12_livesAt (by omega) (by omega), gB_v, x12_livesAt (by omega) (by omega), gB_v, gL_b, lvs_eq hr.2.1 (by omega), lvs_eq hr.2.1 (by omega), eboth]
                by_cases z : na * nb = 0
                · refine ⟨-1, ?_, ?_⟩
                  · rw [z, if_neg (by rw [lgc_gt]; decide)]
                  · rw [z, if_pos (by rw [lgc_eq]; rfl)]
                · have z' : ¬ lN (na * nb) = 0 := fun q => z ((lN_eq (b := 0) (by omega) (by omega)).mp q)
                  refine ⟨cvS (I 10) tb a b (Int32.toInt64 x3) (lN (na * nb)) i 110, ?_, ?_⟩
                  · rw [if_pos (by rw [lgc_gt, lN_toInt (by omega)]; simp only [Int64.reduceToInt]; omega)]
                    exact x6_cov (by omega) ha hb (by omega) ei z' 110 gFu 0 (by omega) (by unfold gFu; omega)
                  · rw [if_neg (by rw [lgc_eq]; exact z')]
                    have := x12_cov (I := I) (T := tb) (sum := x3) (by omega) ha hb (i := i) (by omega) (b8.trans ei) z' (nI s) (nI o) 400 gFu 0 (by omega) (by unfold gFu; omega)
                    rw [cvS_cg hr.2.1 (by omega) 400, show 400 = 110 + 290 from rfl, cvS_up] at this
                    exact this
              obtain ⟨v, v1, v2⟩ := key
              refine EEr v ?_ ?_ hI
              · unfold p_X11_cover
                rw [x11_settlementOf b2'' b2, if_pos c1, nI_clamp (by omega)]
                show gB (p_X7_has I (nI o)) _ = _
                rw [gB_y _ (x7_has I b1'' b1 _) c2, if_neg (by decide), eT, etb]
                simp only [Int32.lt_iff_toInt_lt, Int32.le_iff_toInt_le, Int32.reduceToInt, gL_b]
                rw [if_neg (by omega), if_pos (by omega), if_neg c4', gB_y _ (x7_has I b1'' b1 _) (in_y hT (by omega)), if_neg (by decide), gB_n _ ko c5, if_pos rfl, gB_n _ kT c6, if_pos rfl, gck_t g2, gck_t gT, nI_clamp (by omega), nI_clamp (by omega), ea, eb, v1, gB_v]
              · unfold p_X12_cover
                rw [gB_y _ (x12_isSettlement I b2'' b2' _) c1, if_neg (by decide), gB_y _ (x12_isPerson I b1'' b1' _) c2, if_neg (by decide), gck_t gs, nI_clamp (by omega), e158, eT, if_neg c4', lies_y _ (by simp only [i32_toInt64, Int64.reduceToInt]; omega), if_neg (by decide), y1, gB_n _ mo c5, if_pos rfl, gck_t gs, gB_n _ mT c6, if_pos rfl, gck_t gs, e159, etb, gL_b, gck_t g2, nI_clamp (by omega), po.1.1, ea, gL_b, gck_t gs, gck_t gT, nI_clamp (by omega), pT.1.1, eb, gL_b]
                exact v2
      · refine EEr (-1) ?_ ?_ hI
        · unfold p_X11_cover
          rw [x11_settlementOf b2'' b2, if_pos c1, nI_clamp (by omega)]
          show gB (p_X7_has I (nI o)) _ = _
          rw [gB_y _ (x7_has I b1'' b1 _) c2, if_neg (by decide)]
          simp only [Int32.lt_iff_toInt_lt, Int32.le_iff_toInt_le, Int32.reduceToInt, gL_b]
          by_cases d : x3.toInt < 1
          · rw [if_pos d]
          · rw [if_neg d, if_neg (by omega)]
        · unfold p_X12_cover
          rw [gB_y _ (x12_isSettlement I b2'' b2' _) c1, if_neg (by decide), gB_y _ (x12_isPerson I b1'' b1' _) c2, if_neg (by decide), gck_t gs, lies_n _ (by simp only [i32_toInt64, Int64.reduceToInt]; omega), if_pos rfl]
          split <;> rfl
    · refine EEr (-1) ?_ ?_ hI
      · unfold p_X11_cover
        rw [x11_settlementOf b2'' b2, if_pos c1]
        show gB (p_X7_has I x2) _ = _
        rw [gB_n _ (x7_has I b1'' b1 _) c2, if_pos rfl]
      · unfold p_X12_cover
        rw [gB_y _ (x12_isSettlement I b2'' b2' _) c1, if_neg (by decide), gB_n _ (x12_isPerson I b1'' b1' _) c2, if_pos rfl]
  · refine EEr (-1) ?_ ?_ hI
    · unfold p_X11_cover
      rw [x11_settlementOf b2'' b2, if_neg c1]
      rfl
    · unfold p_X12_cover
      rw [gB_n _ (x12_isSettlement I b2'' b2' _) c1, if_pos rfl]
