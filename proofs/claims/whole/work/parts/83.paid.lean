/-! ===== who goes ahead; what reaches a sale; paid ===== -/
def nt (I : gIt) (t : Int32) (a : Nat) : Bool := decide (¬ I 92 a = -1 ∧ (I 92 a).toInt ≤ t.toInt)
def gah (I : gIt) (t : Int32) (a b : Nat) : Bool := if nt I t a = nt I t b then (if nt I t a = true then (if I 92 a = I 92 b then (if I 93 a = I 93 b then decide (a < b) else decide ((I 93 a).toInt < (I 93 b).toInt)) else decide ((I 92 a).toInt < (I 92 b).toInt)) else decide (a < b)) else nt I t a
theorem x8_noticed {I : gIt} {t : Int32} {a : Nat} (ha : a < 40) : p_X8_noticed I (nI a) t = some (if nt I t a then 1 else 0) := by
  have g : gin (nI a) 40 = true := gin_nI ha (by omega)
  unfold p_X8_noticed nt
  simp only [gck_t g, nI_clamp (show a < 2 ^ 31 by omega), Int32.lt_iff_toInt_lt]
  by_cases c1 : I 92 a = -1
  · rw [if_pos c1, decide_eq_false (fun q => q.1 c1)]; rfl
  · rw [if_neg c1]
    by_cases c2 : t.toInt < (I 92 a).toInt
    · rw [if_pos c2, decide_eq_false (fun q => by omega)]; rfl
    · rw [if_neg c2, decide_eq_true ⟨c1, by omega⟩]; rfl
theorem dI {x y : Int32} : (if x ≤ y then some (0 : Int32) else some 1) = some (if decide (y.toInt < x.toInt) = true then 1 else 0) := by
  by_cases c : x ≤ y
  · rw [if_pos c, decide_eq_false (by rw [Int32.le_iff_toInt_le] at c; omega)]; rfl
  · rw [if_neg c, decide_eq_true (by rw [Int32.le_iff_toInt_le] at c; omega)]; rfl
theorem dN {a b : Nat} (ha : a < 40) (hb : b < 40) : (if nI b ≤ nI a then some (0 : Int32) else some 1) = some (if decide (a < b) = true then 1 else 0) := by
  rw [dI, nI_toInt (by omega), nI_toInt (by omega)]
  congr 2
  simp
theorem x8_goesAhead {I : gIt} {t : Int32} {a b : Nat} (ha : a < 40) (hb : b < 40) : p_X8_goesAhead I (nI a) (nI b) t = some (if gah I t a b then 1 else 0) := by
  have ga : gin (nI a) 40 = true := gin_nI ha (by omega)
  have gb : gin (nI b) 40 = true := gin_nI hb (by omega)
  unfold p_X8_goesAhead gah
  simp only [x8_noticed ha, x8_noticed hb, gB_v, gck_t ga, gck_t gb, nI_clamp (show a < 2 ^ 31 by omega), nI_clamp (show b < 2 ^ 31 by omega), dN ha hb, dI]
  cases nt I t a <;> cases nt I t b
  · simp
  · simp [gck, gbo]
  · simp [gck, gbo]
  · by_cases c1 : I 92 a = I 92 b
    · by_cases c2 : I 93 a = I 93 b
      · simp [c1, c2]
      · simp [c1, c2]
    · simp [c1]
theorem x12_isAhead {I : gIt} {t : Int32} {a b : Nat} (ha : a < 40) (hb : b < 40) (e1 : I 181 a = I 92 a) (e2 : I 181 b = I 92 b) (e3 : I 182 a = I 93 a) (e4 : I 182 b = I 93 b) : p_X12_isAhead I (nI a) (nI b) t = some (if gah I t a b then 1 else 0) := by
  have ga : gin (nI a) 40 = true := gin_nI ha (by omega)
  have gb : gin (nI b) 40 = true := gin_nI hb (by omega)
  have n : ∀ x, (if I 92 x = -1 then some (0 : Int32) else if t < I 92 x then some (0 : Int32) else some 1) = some (if nt I t x then 1 else 0) := fun x => by
    unfold nt
    simp only [Int32.lt_iff_toInt_lt]
    by_cases c1 : I 92 x = -1
    · rw [if_pos c1, decide_eq_false (fun q => q.1 c1)]; rfl
    · rw [if_neg c1]
      by_cases c2 : t.toInt < (I 92 x).toInt
      · rw [if_pos c2, decide_eq_false (fun q => by omega)]; rfl
      · rw [if_neg c2, decide_eq_true ⟨c1, by omega⟩]; rfl
  unfold p_X12_isAhead gah
  simp only [gck_t ga, gck_t gb, nI_clamp (show a < 2 ^ 31 by omega), nI_clamp (show b < 2 ^ 31 by omega), e1, e2, e3, e4, n, gB_v, dN ha hb, dI]
  cases nt I t a <;> cases nt I t b
  · simp
  · simp [gck, gbo]
  · simp [gck, gbo]
  · by_cases c1 : I 92 a = I 92 b
    · by_cases c2 : I 93 a = I 93 b
      · simp [c1, c2]
      · simp [c1, c2]
    · simp [c1]
theorem x8_binds {I : gIt} {nS : Nat} (hn : nS ≤ 40) (h : I 84 10 = nI nS) {j : Nat} (hj : j < nS) (x2 x3 : Int32) : p_X8_binds I (nI j) x2 x3 = some (if I 85 j = x2 ∧ I 86 j = x3 ∧ I 94 j = -1 then 1 else 0) := by
  have g : gin (nI j) 40 = true := gin_nI (by omega) (by omega)
  unfold p_X8_binds
  rw [gB_y _ (x8_has I hn h _) (in_y hj (by omega)), if_neg (by decide)]
  simp only [gck_t g, nI_clamp (show j < 2 ^ 31 by omega)]
  by_cases c1 : I 85 j = x2
  · by_cases c2 : I 86 j = x3
    · by_cases c3 : I 94 j = -1
      · rw [if_pos c1, if_pos c2, if_pos c3, if_pos ⟨c1, c2, c3⟩]
      · rw [if_pos c1, if_pos c2, if_neg c3, if_neg (fun q => c3 q.2.2)]
    · rw [if_pos c1, if_neg c2, if_neg (fun q => c2 q.2.1)]
  · rw [if_neg c1, if_neg (fun q => c1 q.1)]
theorem x12_isOn {I : gIt} {j : Nat} (hj : j < 40) (e1 : I 174 j = I 85 j) (e2 : I 175 j = I 86 j) (e3 : I 179 j = I 91 j) (e4 : I 183 j = I 94 j) {x2 x3 t : Int32} (hon : I 86 j = x3 → (I 91 j).toInt ≤ t.toInt ∧ (I 94 j = -1 ∨ (I 94 j).toInt ≤ t.toInt)) : p_X12_isOn I (nI j) x2 x3 t = some (if I 85 j = x2 ∧ I 86 j = x3 ∧ I 94 j = -1 then 1 else 0) := by
  have g : gin (nI j) 40 = true := gin_nI hj (by omega)
  unfold p_X12_isOn
  simp only [gck_t g, nI_clamp (show j < 2 ^ 31 by omega), e1, e2, e3, e4, Int32.lt_iff_toInt_lt, Int32.le_iff_toInt_le]
  by_cases c1 : I 85 j = x2
  · by_cases c2 : I 86 j = x3
    · obtain ⟨h1, h2⟩ := hon c2
      rw [if_pos c1, if_pos c2, if_neg (by omega)]
      by_cases c3 : I 94 j = -1
      · rw [if_pos c3, if_pos ⟨c1, c2, c3⟩]
      · rw [if_neg c3, if_pos (h2.resolve_left c3), if_neg (fun q => c3 q.2.2)]
    · rw [if_pos c1, if_neg c2, if_neg (fun q => c2 q.2.1)]
  · rw [if_neg c1, if_neg (fun q => c1 q.1)]
/-- the thousandths that go ahead of sale i, of the first k; what reaches it -/
def ahd (I : gIt) (t : Int32) (i : Nat) : Nat → Nat
  | 0 => 0
  | k + 1 => ahd I t i k + if (decide (¬ k = i ∧ I 85 k = I 85 i ∧ I 86 k = I 86 i ∧ I 94 k = -1) && gah I t k i) then (I 87 k).toNatClampNeg else 0
def rch (I : gIt) (nS : Nat) (t : Int32) (i : Nat) : Nat := min (I 87 i).toNatClampNeg (1000 - ahd I t i nS)
theorem gah_k {I I' : gIt} (h : gkeep I I') (t : Int32) (a b : Nat) : gah I' t a b = gah I t a b := by
  unfold gah nt
  rw [h.1 92 (by unfold gco; omega), h.1 93 (by unfold gco; omega)]
theorem ahd_k {I I' : gIt} (h : gkeep I I') (t : Int32) (i : Nat) : ∀ k, ahd I' t i k = ahd I t i k := by
  intro k
  induction k with
  | zero => rfl
  | succ k ih =>
    unfold ahd
    rw [ih, gah_k h, h.1 85 (by unfold gco; omega), h.1 86 (by unfold gco; omega), h.1 87 (by unfold gco; omega), h.1 94 (by unfold gco; omega)]
theorem rch_k {I I' : gIt} (h : gkeep I I') (nS : Nat) (t : Int32) (i : Nat) : rch I' nS t i = rch I nS t i := by
  unfold rch
  rw [ahd_k h, h.1 87 (by unfold gco; omega)]
def p1000 (I : gIt) (nS : Nat) : Prop := ∀ i, i < nS → ∃ p, I 87 i = nI p ∧ p ≤ 1000
theorem ahd_le {I : gIt} {nS : Nat} (h : p1000 I nS) (t : Int32) (i : Nat) : ∀ k, k ≤ nS → ahd I t i k ≤ 1000 * k := by
  intro k
  induction k with
  | zero => intro _; exact Nat.le_refl _
  | succ k ih =>
    intro hk
    have := ih (by omega)
    obtain ⟨p, e, hp⟩ := h k (by omega)
    unfold ahd
    rw [e, nI_clamp (by omega)]
    by_cases c : (decide (¬ k = i ∧ I 85 k = I 85 i ∧ I 86 k = I 86 i ∧ I 94 k = -1) && gah I t k i) = true
    · rw [if_pos c]; omega
    · rw [if_neg c]; omega
theorem rch_le (I : gIt) (nS : Nat) (t : Int32) (i : Nat) : rch I nS t i ≤ 1000 := by unfold rch; omega
theorem x8_pr {I : gIt} {nS : Nat} (hn : nS ≤ 40) (h : I 84 10 = nI nS) (hp : p1000 I nS) (t : Int32) {i : Nat} (hi : i < nS) : ∀ (d f k : Nat), k + d = nS → d < f → p_X8_partsReached_15 I (nI i) t f (nI (ahd I t i k)) (nI k) = some (nI (rch I nS t i)) := by
  intro d
  have g : gin (nI i) 40 = true := gin_nI (by omega) (by omega)
  obtain ⟨p, ep, hp1⟩ := hp i hi
  induction d with
  | zero =>
    intro f k hk hf
    obtain ⟨f, rfl⟩ : ∃ q, f = q + 1 := ⟨f - 1, by omega⟩
    have : k = nS := by omega
    subst this
    have hb := ahd_le hp t i k (Nat.le_refl _)
    unfold p_X8_partsReached_15
    rw [h, if_pos (nI_le (by omega) (by omega)), gck_t g, nI_clamp (by omega), ep]
    unfold rch
    rw [ep, nI_clamp (by omega)]
    congr 1
    generalize ahd I t i k = a at hb ⊢
    by_cases c : a ≤ 1000
    · rw [show (1000 : Int32) - nI a = nI (1000 - a) from pk_sub (a := 1000) c, nI_min (by omega) (by omega)]
      unfold gmax
      by_cases c2 : 0 < min p (1000 - a)
      · rw [if_pos (show (0 : Int32) < nI _ from nI_lt (a := 0) c2 (by omega))]
      · rw [show min p (1000 - a) = 0 by omega]
        decide
    · have z : (1000 - nI a : Int32).toInt = 1000 - (a : Int) := pk_sub_toInt (a := 1000) (by omega) (by omega)
      unfold gmin
      rw [if_pos (by rw [Int32.lt_iff_toInt_lt, z, nI_toInt (by omega)]; omega)]
      unfold gmax
      rw [if_neg (by rw [Int32.lt_iff_toInt_lt, z]; simp only [Int32.reduceToInt]; omega), show min p (1000 - a) = 0 by omega]
      rfl
  | succ d ih =>
    intro f k hk hf
    obtain ⟨f, rfl⟩ : ∃ q, f = q + 1 := ⟨f - 1, by omega⟩
    have nx := ih f (k + 1) (by omega) (by omega)
    obtain ⟨q, eq, hq⟩ := hp k (by omega)
    unfold p_X8_partsReached_15
    rw [h, if_neg (nI_ge (by omega) (by omega)), if_neg (show ¬ (40 : Int32) ≤ nI k from nI_ge (b := 40) (by omega) (by omega))]
    simp only [gck_t g, gck_t (gin_nI (show k < 40 by omega) (by omega)), nI_clamp (show i < 2 ^ 31 by omega), nI_clamp (show k < 2 ^ 31 by omega), x8_binds hn h (show k < nS by omega), gB_v, x8_goesAhead (show k < 40 by omega) (show i < 40 by omega), nI_1, gL_b, eq, nI_add]
    unfold ahd at nx
    rw [eq, nI_clamp (by omega)] at nx
    by_cases c1 : k = i
    · rw [if_pos (by rw [c1])]
      rw [decide_eq_false (fun z => z.1 c1), Bool.false_and, if_neg (by decide), Nat.add_zero] at nx
      exact nx
    · rw [if_neg (fun z => c1 ((nI_eq (by omega) (by omega)).mp z))]
      by_cases c2 : I 85 k = I 85 i ∧ I 86 k = I 86 i ∧ I 94 k = -1
      · rw [if_pos c2, if_neg (by decide)]
        rw [decide_eq_true ⟨c1, c2⟩, Bool.true_and] at nx
        by_cases c3 : gah I t k i = true
        · rw [if_pos c3] at nx ⊢
          rw [if_neg (by decide)]
          exact nx
        · rw [if_neg c3] at nx ⊢
          rw [if_pos rfl]
          exact nx
      · rw [if_neg c2, if_pos rfl]
        rw [decide_eq_false (fun z => c2 z.2), Bool.false_and, if_neg (by decide), Nat.add_zero] at nx
        exact nx
theorem x8_partsReached {I : gIt} {nS : Nat} (hn : nS ≤ 40) (h : I 84 10 = nI nS) (hp : p1000 I nS) (t : Int32) {i : Nat} (hi : i < nS) : p_X8_partsReached I (nI i) t = some (nI (rch I nS t i)) := by
  unfold p_X8_partsReached
  rw [gB_y _ (x8_has I hn h _) (in_y hi (by omega)), if_neg (by decide)]
  exact x8_pr hn h hp t hi nS gFu 0 (by omega) (by unfold gFu; omega)
/-- the sales as the reference has them -/
def sEq (I : gIt) (nS : Nat) : Prop := ∀ i, i < nS → (I 174 i = I 85 i ∧ I 175 i = I 86 i ∧ I 176 i = I 87 i ∧ I 177 i = I 88 i ∧ I 179 i = I 91 i ∧ I 181 i = I 92 i ∧ I 182 i = I 93 i ∧ I 183 i = I 94 i)
def sOn (I : gIt) (nS : Nat) (t x3 : Int32) : Prop := ∀ i, i < nS → I 86 i = x3 → (I 91 i).toInt ≤ t.toInt ∧ (I 94 i = -1 ∨ (I 94 i).toInt ≤ t.toInt)
theorem x12_po {I : gIt} {nS : Nat} (hn : nS ≤ 40) (h : I 149 5 = nI nS) (hp : p1000 I nS) (hs : sEq I nS) (t : Int32) {i : Nat} (hi : i < nS) (hon : sOn I nS t (I 86 i)) : ∀ (d f k : Nat), k + d = nS → d < f → p_X12_partsOf_5 I (nI i) t f (nI (ahd I t i k)) (nI k) = some (nI (rch I nS t i)) := by
  intro d
  have g : gin (nI i) 40 = true := gin_nI (by omega) (by omega)
  obtain ⟨p, ep, hp1⟩ := hp i hi
  obtain ⟨s1, s2, s3, -, -, s6, s7, -⟩ := hs i hi
  have z0 : ∀ x : Int32, x + 0 = x := fun x => Int32.add_zero x
  induction d with
  | zero =>
    intro f k hk hf
    obtain ⟨f, rfl⟩ : ∃ q, f = q + 1 := ⟨f - 1, by omega⟩
    have : k = nS := by omega
    subst this
    have hb := ahd_le hp t i k (Nat.le_refl _)
    unfold p_X12_partsOf_5
    rw [h, if_pos (nI_le (by omega) (by omega))]
    simp only [gL_b, gck_t g, nI_clamp (show i < 2 ^ 31 by omega), s3, ep]
    unfold rch
    rw [ep, nI_clamp (by omega)]
    generalize ahd I t i k = a at hb ⊢
    by_cases c : a ≤ 1000
    · rw [show (1000 : Int32) - nI a = nI (1000 - a) from pk_sub (a := 1000) c]
      by_cases c2 : a < 1000
      · rw [if_pos (show (0 : Int32) < nI _ from nI_lt (a := 0) (by omega) (by omega))]
        by_cases c3 : p ≤ 1000 - a
        · rw [if_pos (nI_le c3 (by omega)), Nat.min_eq_left c3]
        · rw [if_neg (nI_ge (by omega) (by omega)), Nat.min_eq_right (by omega)]
      · rw [show 1000 - a = 0 by omega, Nat.min_zero]
        rfl
    · have z : (1000 - nI a : Int32).toInt = 1000 - (a : Int) := pk_sub_toInt (a := 1000) (by omega) (by omega)
      rw [if_neg (by rw [Int32.lt_iff_toInt_lt, z]; simp only [Int32.reduceToInt]; omega), show min p (1000 - a) = 0 by omega]
      rfl
  | succ d ih =>
    intro f k hk hf
    obtain ⟨f, rfl⟩ : ∃ q, f = q + 1 := ⟨f - 1, by omega⟩
    have nx := ih f (k + 1) (by omega) (by omega)
    obtain ⟨q, eq, hq⟩ := hp k (by omega)
    obtain ⟨k1, k2, k3, -, k5, k6, k7, k8⟩ := hs k (by omega)
    unfold p_X12_partsOf_5
    rw [h, if_neg (nI_ge (by omega) (by omega))]
    simp only [gck_t g, gck_t (gin_nI (show k < 40 by omega) (by omega)), nI_clamp (show i < 2 ^ 31 by omega), nI_clamp (show k < 2 ^ 31 by omega), s1, s2, k3, x12_isOn (show k < 40 by omega) k1 k2 k5 k8 (hon k (by omega)), gB_v, x12_isAhead (I := I) (t := t) (show k < 40 by omega) (show i < 40 by omega) k6 s6 k7 s7, nI_1, gL_b, eq, nI_add, z0]
    unfold ahd at nx
    rw [eq, nI_clamp (by omega)] at nx
    by_cases c1 : k = i
    · rw [if_pos (by rw [c1])]
      rw [decide_eq_false (fun z => z.1 c1), Bool.false_and, if_neg (by decide), Nat.add_zero] at nx
      exact nx
    · rw [if_neg (fun z => c1 ((nI_eq (by omega) (by omega)).mp z))]
      by_cases c2 : I 85 k = I 85 i ∧ I 86 k = I 86 i ∧ I 94 k = -1
      · rw [if_pos c2, if_neg (by decide)]
        rw [decide_eq_true ⟨c1, c2⟩, Bool.true_and] at nx
        by_cases c3 : gah I t k i = true
        · rw [if_pos c3] at nx ⊢
          rw [if_neg (by decide)]
          exact nx
        · rw [if_neg c3] at nx ⊢
          rw [if_pos rfl]
          exact nx
      · rw [if_neg c2, if_pos rfl]
        rw [decide_eq_false (fun z => c2 z.2), Bool.false_and, if_neg (by decide), Nat.add_zero] at nx
        exact nx
theorem x12_partsOf {I : gIt} {nS : Nat} (hn : nS ≤ 40) (h : I 149 5 = nI nS) (hp : p1000 I nS) (hs : sEq I nS) (t : Int32) {i : Nat} (hi : i < nS) (hon : sOn I nS t (I 86 i)) : p_X12_partsOf I (nI i) t = some (nI (rch I nS t i)) := by
  unfold p_X12_partsOf
  exact x12_po hn h hp hs t hi hon nS gFu 0 (by omega) (by unfold gFu; omega)
theorem sal_p {I : gIt} {P ns nS : Nat} (h : ∀ i, i < nS → iSal1 I P ns i) : p1000 I nS ∧ sEq I nS := by
  refine ⟨fun i hi => ?_, fun i hi => ?_⟩
  · obtain ⟨-, -, -, -, ⟨q1, q2⟩, -⟩ := h i hi
    obtain ⟨p, -, e, t⟩ := i_of (x := I 87 i) (by omega)
    exact ⟨p, e, by omega⟩
  · obtain ⟨⟨e1, e2, e3, e4, e5, e6, e7, e8, e9, e10⟩, -⟩ := h i hi
    exact ⟨e1, e2, e3, e4, e7, e8, e9, e10⟩
theorem p1000_k {I I' : gIt} (h : gkeep I I') {nS : Nat} (q : p1000 I nS) : p1000 I' nS := fun i hi => by rw [h.1 87 (by unfold gco; omega)]; exact q i hi
theorem sEq_k {I I' : gIt} (h : gkeep I I') {nS : Nat} (q : sEq I nS) : sEq I' nS := fun i hi => by
  rw [h.1 174 (by unfold gco; omega), h.1 175 (by unfold gco; omega), h.1 176 (by unfold gco; omega), h.1 177 (by unfold gco; omega), h.1 179 (by unfold gco; omega), h.1 181 (by unfold gco; omega), h.1 182 (by unfold gco; omega), h.1 183 (by unfold gco; omega), h.1 85 (by unfold gco; omega), h.1 86 (by unfold gco; omega), h.1 87 (by unfold gco; omega), h.1 88 (by unfold gco; omega), h.1 91 (by unfold gco; omega), h.1 92 (by unfold gco; omega), h.1 93 (by unfold gco; omega), h.1 94 (by unfold gco; omega)]
  exact q i hi
theorem sOn_k {I I' : gIt} (h : gkeep I I') {nS : Nat} {t x : Int32} (q : sOn I nS t x) : sOn I' nS t x := fun i hi => by
  rw [h.1 86 (by unfold gco; omega), h.1 91 (by unfold gco; omega), h.1 94 (by unfold gco; omega)]
  exact q i hi
theorem paid_s {I r M : gIt} {nS : Nat} (kr : gkeep I r) (kM : gkeep I M) (hn : nS ≤ 40) (h84 : I 84 10 = nI nS) (h5 : I 149 5 = nI nS) (hp : p1000 I nS) (hs : sEq I nS) {x1 x2 x3 t : Int32} (hon : sOn I nS t x1) (x5 : Int32) {L : Nat} (hL : L ≤ 100000) : ∀ (d f f' k : Nat) (x6 x7 : Int32), k + d = nS → d < f → d < f' → ∃ v, p_X11_paid_153 r x1 x2 x3 t x5 (nI L) f x6 x7 (nI k) = some (v, r) ∧ p_X12_paid_163 M x1 x2 x3 t (nI L) f' x7 x6 (nI k) = some (v, M) := by
  intro d
  have z0 : ∀ x : Int32, x + 0 = x := fun x => Int32.add_zero x
  have s0 : ∀ x : Int32, x - 0 = x := fun x => Int32.sub_zero x
  have r84 : r 84 10 = nI nS := by rw [kr.2.1.2.2.2.2.2.2.2.2.1]; exact h84
  have m5 : M 149 5 = nI nS := by rw [kM.2.2.2.2.2.2.2.1]; exact h5
  induction d with
  | zero =>
    intro f f' k x6 x7 hk hf hf'
    obtain ⟨f, rfl⟩ : ∃ q, f = q + 1 := ⟨f - 1, by omega⟩
    obtain ⟨f', rfl⟩ : ∃ q, f' = q + 1 := ⟨f' - 1, by omega⟩
    unfold p_X11_paid_153 p_X12_paid_163
    rw [r84, m5, if_pos (nI_le (by omega) (by omega)), if_pos (nI_le (by omega) (by omega))]
    by_cases c : x3 = x2
    · rw [if_pos c, if_pos c]; exact ⟨_, rfl, rfl⟩
    · rw [if_neg c, if_neg c]; exact ⟨_, rfl, rfl⟩
  | succ d ih =>
    intro f f' k x6 x7 hk hf hf'
    obtain ⟨f, rfl⟩ : ∃ q, f = q + 1 := ⟨f - 1, by omega⟩
    obtain ⟨f', rfl⟩ : ∃ q, f' = q + 1 := ⟨f' - 1, by omega⟩
    have nx := fun x6 x7 => ih f f' (k + 1) x6 x7 (by omega) (by omega) (by omega)
    obtain ⟨k1, k2, k3, k4, k5, k6, k7, k8⟩ := sEq_k kM hs k (by omega)
    have hR := rch_le I nS t k
    have hLR : L * rch I nS t k ≤ 100000 * 1000 := Nat.mul_le_mul hL hR
    have e1 : nI L * nI (rch I nS t k) / 1000 = nI (L * rch I nS t k / 1000) := by
      rw [pk_mul]
      exact pk_div (d := 1000) (by omega) (by omega) (by omega)
    have e2 : Int64.toInt32 (((Int32.toInt64 (nI L)) * (Int32.toInt64 (nI (rch I nS t k)))) / (1000 : Int64)) = nI (L * rch I nS t k / 1000) := by
      rw [nI_l (by omega), nI_l (by omega), lN_mul, show lN (L * rch I nS t k) / (1000 : Int64) = lN (L * rch I nS t k / 1000) from pk_lDiv (b := 1000) (by omega) (by omega) (by omega), lN_i]
    unfold p_X11_paid_153 p_X12_paid_163
    have c40 : ¬ (40 : Int32) ≤ nI k := nI_ge (b := 40) (by omega) (by omega)
    rw [r84, m5, if_neg (nI_ge (by omega) (by omega)), if_neg (nI_ge (by omega) (by omega)), if_neg c40, x8_binds hn r84 (by omega), gB_v, x12_isOn (show k < 40 by omega) k1 k2 k5 k8 (sOn_k kM hon k (by omega)), gB_v, kr.1 85 (by unfold gco; omega), kr.1 86 (by unfold gco; omega), kr.1 94 (by unfold gco; omega), kM.1 85 (by unfold gco; omega), kM.1 86 (by unfold gco; omega), kM.1 94 (by unfold gco; omega)]
    simp only [gck_t (gin_nI (show k < 40 by omega) (by omega)), nI_clamp (show k < 2 ^ 31 by omega), nI_1, gL_b, z0, k4, kr.1 88 (by unfold gco; omega), kM.1 88 (by unfold gco; omega)]
    by_cases c : I 85 k = x2 ∧ I 86 k = x1 ∧ I 94 k = -1
    · rw [if_pos c, if_neg (by decide), if_neg (by decide), x8_partsReached hn r84 (p1000_k kr hp) t (by omega), gB_v, x12_partsOf hn m5 (p1000_k kM hp) (sEq_k kM hs) t (by omega) (by rw [kM.1 86 (by unfold gco; omega), c.2.1]; exact sOn_k kM hon), gB_v, rch_k kr, rch_k kM, gB_v, e1, e2]
      by_cases c2 : I 88 k = x3
      · rw [if_pos c2, if_pos c2]; exact nx _ _
      · rw [if_neg c2, if_neg c2]; exact nx _ _
    · rw [if_neg c, if_pos rfl, if_pos rfl, gB_v, s0, z0]
      by_cases c2 : I 88 k = x3
      · rw [if_pos c2]; exact nx _ _
      · rw [if_neg c2]; exact nx _ _
theorem x2_binds {I : gIt} {nC : Nat} (hn : nC ≤ 20) (h : I 95 5 = nI nC) {j : Nat} (hj : j < nC) (x2 x3 t : Int32) : p_X2_binds I (nI j) x2 x3 t = some (if I 96 j = x2 ∧ I 97 j = x3 ∧ (I 100 j).toInt ≤ t.toInt then 1 else 0) := by
  have g : gin (nI j) 20 = true := gin_nI (by omega) (by omega)
  unfold p_X2_binds
  have c20 : ¬ (20 : Int32) ≤ nI j := nI_ge (b := 20) (by omega) (by omega)
  rw [if_neg (nI_pos (by omega)), h, if_neg (nI_ge (by omega) (by omega)), if_neg c20]
  simp only [gck_t g, nI_clamp (show j < 2 ^ 31 by omega), Int32.lt_iff_toInt_lt]
  by_cases c1 : I 96 j = x2
  · by_cases c2 : I 97 j = x3
    · by_cases c3 : t.toInt < (I 100 j).toInt
      · rw [if_pos c1, if_pos c2, if_pos c3, if_neg (fun q => by omega)]
      · rw [if_pos c1, if_pos c2, if_neg c3, if_pos ⟨c1, c2, by omega⟩]
    · rw [if_pos c1, if_neg c2, if_neg (fun q => c2 q.2.1)]
  · rw [if_neg c1, if_neg (fun q => c1 q.1)]
theorem paid_c {I r M : gIt} {nS nC P ns : Nat} (kr : gkeep I r) (kM : gkeep I M) (hn : nS ≤ 40) (h84 : I 84 10 = nI nS) (h5 : I 149 5 = nI nS) (hp : p1000 I nS) (hs : sEq I nS) {x1 x2 x3 t : Int32} (hon : sOn I nS t x1) (hc : nC ≤ 20) (h95 : I 95 5 = nI nC) (h6 : I 149 6 = nI nC) (hch : ∀ i, i < nC → iChg1 I P ns i) (x5 : Int32) : ∀ (d f f' k L : Nat) (x7 : Int32), L ≤ 100000 → k + d = nC → d < f → d < f' → ∃ v, p_X11_paid_52 r x1 x2 x3 t x5 f (nI L) x7 (nI k) = some (v, r) ∧ p_X12_paid_49 M x1 x2 x3 t f' (nI L) x7 (nI k) = some (v, M) := by
  intro d
  have z0 : ∀ x : Int32, x + 0 = x := fun x => Int32.add_zero x
  have s0 : ∀ x : Int32, x - 0 = x := fun x => Int32.sub_zero x
  have r95 : r 95 5 = nI nC := by rw [kr.2.1.2.2.2.2.2.2.2.2.2]; exact h95
  have m6 : M 149 6 = nI nC := by rw [kM.2.2.2.2.2.2.2.2.1]; exact h6
  induction d with
  | zero =>
    intro f f' k L x7 hL hk hf hf'
    obtain ⟨f, rfl⟩ : ∃ q, f = q + 1 := ⟨f - 1, by omega⟩
    obtain ⟨f', rfl⟩ : ∃ q, f' = q + 1 := ⟨f' - 1, by omega⟩
    unfold p_X11_paid_52 p_X12_paid_49
    rw [r95, m6, if_pos (nI_le (by omega) (by omega)), if_pos (nI_le (by omega) (by omega))]
    exact paid_s kr kM hn h84 h5 hp hs hon x5 hL nS gFu gFu 0 (nI L) x7 (by omega) (by unfold gFu; omega) (by unfold gFu; omega)
  | succ d ih =>
    intro f f' k L x7 hL hk hf hf'
    obtain ⟨f, rfl⟩ : ∃ q, f = q + 1 := ⟨f - 1, by omega⟩
    obtain ⟨f', rfl⟩ : ∃ q, f' = q + 1 := ⟨f' - 1, by omega⟩
    have nx := fun L x7 hL => ih f f' (k + 1) L x7 hL (by omega) (by omega) (by omega)
    obtain ⟨⟨k1, k2, k3, k4, k5⟩, -, -, -, q1, q2⟩ := hch k (by omega)
    obtain ⟨D, -, eD, tD⟩ := i_of (x := I 99 k) (by omega)
    have g : gin (nI k) 20 = true := gin_nI (by omega) (by omega)
    unfold p_X11_paid_52 p_X12_paid_49
    have c20 : ¬ (20 : Int32) ≤ nI k := nI_ge (b := 20) (by omega) (by omega)
    rw [r95, m6, if_neg (nI_ge (by omega) (by omega)), if_neg (nI_ge (by omega) (by omega)), if_neg c20, x2_binds hc r95 (by omega), gB_v]
    simp only [gck_t g, nI_clamp (show k < 2 ^ 31 by omega), nI_1, gL_b, z0, kr.1 96 (by unfold gco; omega), kr.1 97 (by unfold gco; omega), kr.1 98 (by unfold gco; omega), kr.1 99 (by unfold gco; omega), kr.1 100 (by unfold gco; omega), kM.1 184 (by unfold gco; omega), kM.1 185 (by unfold gco; omega), kM.1 186 (by unfold gco; omega), kM.1 187 (by unfold gco; omega), kM.1 188 (by unfold gco; omega), k1, k2, k3, k4, k5, eD, nI_min (show L < 2 ^ 31 by omega) (show D < 2 ^ 31 by omega), Int32.le_iff_toInt_le]
    by_cases c : I 96 k = x2 ∧ I 97 k = x1 ∧ (I 100 k).toInt ≤ t.toInt
    · have e1 : (if (nI L).toInt ≤ (nI D).toInt then some (nI L) else some (nI D)) = some (nI (min L D)) := by
        rw [nI_toInt (by omega), nI_toInt (by omega)]
        by_cases c2 : L ≤ D
        · rw [if_pos (by omega), Nat.min_eq_left c2]
        · rw [if_neg (by omega), Nat.min_eq_right (by omega)]
      rw [if_pos c, if_neg (by decide), if_pos c.1, if_pos c.2.1, if_pos c.2.2, e1, gB_v, gB_v, pk_sub (Nat.min_le_left _ _)]
      by_cases c2 : I 98 k = x3
      · rw [if_pos c2, if_pos c2]; exact nx _ _ (by omega)
      · rw [if_neg c2, if_neg c2]; exact nx _ _ (by omega)
    · have e1 : ∀ (α : Type) (a b : α), (if I 96 k = x2 then if I 97 k = x1 then if (I 100 k).toInt ≤ t.toInt then a else b else b else b) = b := fun α a b => by
        by_cases d1 : I 96 k = x2
        · rw [if_pos d1]
          by_cases d2 : I 97 k = x1
          · rw [if_pos d2, if_neg (fun q => c ⟨d1, d2, q⟩)]
          · rw [if_neg d2]
        · rw [if_neg d1]
      rw [if_neg c, if_pos rfl, gB_v, s0, z0, e1]
      by_cases c2 : I 98 k = x3
      · rw [if_pos c2]; exact nx _ _ hL
      · rw [if_neg c2]; exact nx _ _ hL
theorem EE22 : EE_22 gInv := by
  intro I J w x1 x2 x3 x4 hI
  obtain ⟨P, ns, nS, nC, nP, nT, hs, hr⟩ := id hI
  obtain ⟨⟨y1, y2, y3⟩, ⟨b1, b1', b1''⟩, ⟨b2, b2', b2''⟩, ⟨b3, b3', b3''⟩, ⟨b4, b4', b4''⟩, -, -, -, ⟨b9, b9', b9''⟩⟩ := id hs
  by_cases c3 : 0 ≤ x3.toInt ∧ x3.toInt < P
  · obtain ⟨v, r, M, e1, e2, kr, kM, hv⟩ := gain_both hI x1 x2 x4
    have f3 : r 149 3 = nI P := by rw [kr.2.2.2.2.2.1]; exact b1'
    rcases hv with rfl | ⟨s, o, g, rfl, rfl, hs10, ho16, rfl, hg, T, hT, eT, d1, d2⟩
    · refine ⟨(-1, r), ?_, (-1, M), ?_, rfl, gInv_k kM hI⟩
      · unfold p_X11_paid
        rw [gB_y _ (x7_has I b1'' b1 _) c3, if_neg (by decide), e1, gB_v]
        rfl
      · show p_X12_paid r x1 x2 x3 x4 = _
        unfold p_X12_paid
        rw [gB_y _ (x12_isPerson r b1'' f3 _) c3, if_neg (by decide), e2, gB_v]
        rfl
    · obtain ⟨D, -, eD, tD⟩ := i_of b9'
      have hon : sOn I nS x4 (nI s) := fun i hi hsi => by
        obtain ⟨-, -, -, -, -, -, -, -, -, -, s', hs', e86, hh⟩ := hr.2.2.2.1 i hi
        rw [hsi, nI_eq (by omega) (by omega)] at e86
        subst e86
        rcases hh T hT eT with z | ⟨z1, z2⟩
        · exact absurd z d1
        · refine ⟨by omega, ?_⟩
          rcases z2 with z2 | z2
          · exact Or.inl z2
          · exact Or.inr (by omega)
      have hgD : g * D ≤ 100000 * 50 := Nat.mul_le_mul hg (by omega)
      have hgD2 : g * D / 100 ≤ g := by
        have : g * D ≤ g * 50 := Nat.mul_le_mul_left _ (by omega)
        omega
      have eL : ∀ x : Int32, x = nI D → nI g - nI g * x / 100 = nI (g - g * D / 100) := fun x hx => by
        rw [hx, pk_mul, show nI (g * D) / (100 : Int32) = nI (g * D / 100) from pk_div (d := 100) (by omega) (by omega) (by omega), pk_sub hgD2]
      obtain ⟨v, q1, q2⟩ := paid_c kr kM b3'' b3 b3' (sal_p hr.2.2.2.1).1 (sal_p hr.2.2.2.1).2 (x2 := nI o) (x3 := x3) hon b4'' b4 b4' hr.2.2.2.2.1 (nI g) nC gFu gFu 0 (g - g * D / 100) 0 (by omega) (by omega) (by unfold gFu; omega) (by unfold gFu; omega)
      have n1 : ¬ nI g = -1 := fun q => by have := congrArg Int32.toInt q; rw [nI_toInt (by omega), show (-1 : Int32).toInt = -1 from rfl] at this; omega
      refine ⟨(v, r), ?_, (v, M), ?_, rfl, gInv_k kM hI⟩
      · unfold p_X11_paid
        rw [gB_y _ (x7_has I b1'' b1 _) c3, if_neg (by decide), e1, gB_v]
        dsimp only
        rw [if_neg n1, gL_b, eL _ (by rw [kr.2.1.2.2.2.1]; exact eD)]
        exact q1
      · show p_X12_paid r (nI s) (nI o) x3 x4 = _
        unfold p_X12_paid
        rw [gB_y _ (x12_isPerson r b1'' f3 _) c3, if_neg (by decide), e2, gB_v]
        dsimp only
        rw [if_neg n1, gL_b, eL _ (by rw [kM.2.2.2.2.2.2.2.2.2.2.2.1, b9]; exact eD)]
        exact q2
  · refine ⟨(-1, I), ?_, (-1, I), ?_, rfl, hI⟩
    · unfold p_X11_paid
      rw [gB_n _ (x7_has I b1'' b1 _) c3, if_pos rfl]
    · show p_X12_paid I x1 x2 x3 x4 = _
      unfold p_X12_paid
      rw [gB_n _ (x12_isPerson I b1'' b1' _) c3, if_pos rfl]
