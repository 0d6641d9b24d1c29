/-! ===== the class: facts, the waiting truths, the first clause that holds ===== -/
def alv (I : gIt) (P : Nat) (t : Int32) (A : Nat) : Prop := A < 65536 ∧ ∀ o, o < 16 → A.testBit o = true → thr I P t o = true
theorem cs_eq {I : gIt} {P : Nat} {t : Int32} {A : Nat} (h : alv I P t A) (hp : ∀ o, o < P → iPer1 I o) (hy : (I 0 14).toInt ≤ 1999) (q : Nat) : gM (chd I P t q) 16 &&& A = cs I P A q := by
  unfold cs
  apply tb_ext (n := 16) (Nat.lt_of_le_of_lt Nat.and_le_right h.1) (Nat.lt_of_le_of_lt Nat.and_le_right h.1)
  intro o ho
  rw [Bool.eq_iff_iff, tb_and, tb_and, gM_tb16 _ ho, gM_tb16 _ ho]
  have z : A.testBit o = true → thr I P t o = true ∧ thr I P 1999 o = true := fun q => by
    have q1 := h.2 o ho q
    refine ⟨q1, ?_⟩
    unfold thr at q1 ⊢
    rw [decide_eq_true_eq] at q1 ⊢
    refine ⟨q1.1, ?_⟩
    have := (hp o q1.1).2.1.2.2
    simp only [Int32.reduceToInt]
    omega
  constructor
  · rintro ⟨q1, q2⟩
    unfold chd at q1 ⊢
    rw [(z q2).1] at q1
    rw [(z q2).2]
    exact ⟨q1, q2⟩
  · rintro ⟨q1, q2⟩
    unfold chd at q1 ⊢
    rw [(z q2).2] at q1
    rw [(z q2).1]
    exact ⟨q1, q2⟩
theorem x5_facts_loop {r : gIt} {A : Nat} {S : Nat → Nat} (hS : ∀ q, q < 16 → r 75 q &&& nI A = nI (S q) ∧ S q < 65536) : ∀ (d f k m : Nat), k + d = 16 → d < f → m < 2 ^ 32 → (∀ j, j < 32 → (m.testBit j = true ↔ (A.testBit j = true ∨ ∃ q, q < k ∧ j = 16 + q ∧ ¬ S q = 0))) → ∃ m', m' < 2 ^ 32 ∧ (∀ j, j < 32 → (m'.testBit j = true ↔ (A.testBit j = true ∨ ∃ q, q < 16 ∧ j = 16 + q ∧ ¬ S q = 0))) ∧ p_X5_factsOf_4 r (nI A) f (nI m) (nI k) = some (nI m') := by
  intro d
  induction d with
  | zero =>
    intro f k m hk hf hm hb
    obtain ⟨f, rfl⟩ : ∃ q, f = q + 1 := ⟨f - 1, by omega⟩
    have : k = 16 := by omega
    subst this
    refine ⟨m, hm, hb, ?_⟩
    unfold p_X5_factsOf_4
    rw [if_pos (show (16 : Int32) ≤ nI 16 by decide)]
  | succ d ih =>
    intro f k m hk hf hm hb
    obtain ⟨f, rfl⟩ : ∃ q, f = q + 1 := ⟨f - 1, by omega⟩
    unfold p_X5_factsOf_4
    rw [if_neg (show ¬ (16 : Int32) ≤ nI k from nI_ge (b := 16) (by omega) (by omega)), gck_t (gin_nI (by omega) (by omega)), nI_clamp (by omega), (hS k (by omega)).1, nI_1, gL_b, show (16 : Int32) + nI k = nI (16 + k) from nI_add 16 k, shl1 (by omega), nI_or]
    have hS2 := (hS k (by omega)).2
    by_cases c : S k = 0
    · rw [if_pos (show nI (S k) = 0 by rw [c]; rfl)]
      refine ih f (k + 1) m (by omega) (by omega) hm (fun j hj => ?_)
      rw [hb j hj]
      constructor
      · rintro (z | ⟨q, q1, q2⟩)
        · exact Or.inl z
        · exact Or.inr ⟨q, by omega, q2⟩
      · rintro (z | ⟨q, q1, q2, q3⟩)
        · exact Or.inl z
        · by_cases e : q = k
          · rw [e] at q3; exact absurd c q3
          · exact Or.inr ⟨q, by omega, q2, q3⟩
    · rw [if_neg (show ¬ nI (S k) = 0 from fun z => c ((nI_inj (by omega) (by omega)).mp (show nI (S k) = nI 0 from z)))]
      refine ih f (k + 1) _ (by omega) (by omega) (Nat.or_lt_two_pow hm (Nat.pow_lt_pow_right (by omega) (by omega))) (fun j hj => ?_)
      rw [tb_set, hb j hj]
      constructor
      · rintro ((z | ⟨q, q1, q2⟩) | z)
        · exact Or.inl z
        · exact Or.inr ⟨q, by omega, q2⟩
        · exact Or.inr ⟨k, by omega, z, c⟩
      · rintro (z | ⟨q, q1, q2, q3⟩)
        · exact Or.inl (Or.inl z)
        · by_cases e : q = k
          · rw [e] at q2; exact Or.inr q2
          · exact Or.inl (Or.inr ⟨q, by omega, q2, q3⟩)
/-- what the facts say -/
def fcs (I : gIt) (P A fc : Nat) : Prop := fc < 2 ^ 32 ∧ (∀ j, j < 16 → fc.testBit j = A.testBit j) ∧ (∀ q, q < 16 → fc.testBit (16 + q) = !decide (cs I P A q = 0))
theorem x5_factsOf {I r : gIt} {P : Nat} {t : Int32} {A : Nat} (hk : knw I P t r) (h : alv I P t A) (hp : ∀ o, o < P → iPer1 I o) (hy : (I 0 14).toInt ≤ 1999) : ∃ fc, fcs I P A fc ∧ p_X5_factsOf r (nI A) = some (nI fc) := by
  have hS : ∀ q, q < 16 → r 75 q &&& nI A = nI (cs I P A q) ∧ cs I P A q < 65536 := fun q hq => by
    rw [hk.2.2.2 q hq, nI_and, cs_eq h hp hy]
    exact ⟨rfl, Nat.lt_of_le_of_lt Nat.and_le_right h.1⟩
  obtain ⟨m, m1, m2, m3⟩ := x5_facts_loop hS 16 gFu 0 A (by omega) (by unfold gFu; omega) (by have := h.1; omega) (fun j hj => by
    constructor
    · exact Or.inl
    · rintro (z | ⟨q, q1, -⟩)
      · exact z
      · omega)
  refine ⟨m, ⟨m1, fun j hj => ?_, fun q hq => ?_⟩, ?_⟩
  · rw [Bool.eq_iff_iff, m2 j (by omega)]
    constructor
    · rintro (z | ⟨q, q1, q2, -⟩)
      · exact z
      · omega
    · exact Or.inl
  · rw [Bool.eq_iff_iff, m2 (16 + q) (by omega), Bool.not_eq_true', decide_eq_false_iff_not]
    constructor
    · rintro (z | ⟨x, q1, q2, q3⟩)
      · rw [Nat.testBit_lt_two_pow (Nat.lt_of_lt_of_le h.1 (show 2 ^ 16 ≤ 2 ^ (16 + q) from Nat.pow_le_pow_right (by omega) (by omega)))] at z
        exact absurd z (by decide)
      · rw [show q = x by omega]; exact q3
    · intro z; exact Or.inr ⟨q, hq, rfl, z⟩
  · unfold p_X5_factsOf
    exact m3
def enc : List Bool → Nat
  | [] => 0
  | b :: r => 2 * enc r + if b then 1 else 0
theorem enc_lt : ∀ st : List Bool, enc st < 2 ^ st.length := by
  intro st
  induction st with
  | nil => decide
  | cons b r ih =>
    unfold enc
    rw [List.length_cons, Nat.pow_succ]
    by_cases h : b = true
    · rw [if_pos h]; omega
    · rw [if_neg h]; omega
theorem enc_lt20 {st : List Bool} {n : Nat} (h : st.length ≤ n) : enc st < 2 ^ n := Nat.lt_of_lt_of_le (enc_lt st) (Nat.pow_le_pow_right (by omega) h)
theorem dm2 {a b : Nat} (h1 : a / 2 = b / 2) (h2 : a % 2 = b % 2) : a = b := by omega
theorem ush_1 {n : Nat} (h : n < 2 ^ 32) : gushr (nI n) 1 = nI (n / 2) := by
  unfold gushr
  exact pk_ushrN h _ 1 (sm_u 1 (by omega))
theorem and_par {x y : Nat} {a b : Bool} (hx : x % 2 = if a then 1 else 0) (hy : y % 2 = if b then 1 else 0) : (x &&& y) % 2 = if (a && b) then 1 else 0 := by
  have q := @Nat.and_mod_two_eq_one x y
  cases a <;> cases b <;> simp only [Bool.false_eq_true, if_true, if_false, Bool.and_self, Bool.and_false, Bool.false_and] at hx hy ⊢ <;> omega
theorem or_par {x y : Nat} {a b : Bool} (hx : x % 2 = if a then 1 else 0) (hy : y % 2 = if b then 1 else 0) : (x ||| y) % 2 = if (a || b) then 1 else 0 := by
  have q := @Nat.or_mod_two_eq_one x y
  cases a <;> cases b <;> simp only [Bool.false_eq_true, if_true, if_false, Bool.or_self, Bool.or_true, Bool.true_or] at hx hy ⊢ <;> omega
theorem enc_mod (a : Bool) (r : List Bool) : enc (a :: r) % 2 = if a then 1 else 0 := by
  show (2 * enc r + _) % 2 = _
  cases a <;> simp
theorem enc_div (a : Bool) (r : List Bool) : enc (a :: r) / 2 = enc r := by
  show (2 * enc r + _) / 2 = _
  cases a <;> simp <;> omega
theorem enc_not (a : Bool) (r : List Bool) : enc (a :: r) ^^^ 1 = enc ((!a) :: r) := by
  apply dm2
  · rw [Nat.xor_div_two, enc_div, enc_div]
    show enc r ^^^ 0 = _
    rw [Nat.xor_zero]
  · have q := @Nat.xor_mod_two_eq_one (enc (a :: r)) 1
    have e := enc_mod a r
    rw [enc_mod]
    cases a <;> simp only [Bool.false_eq_true, if_true, if_false, Bool.not_true, Bool.not_false] at e ⊢ <;> omega
theorem enc_and (a b : Bool) (r : List Bool) (h : enc (a :: b :: r) < 2 ^ 31) : (enc (a :: b :: r) / 2) &&& (enc (a :: b :: r) ||| (2 ^ 32 - 2)) = enc ((b && a) :: r) := by
  have h3 : ∀ x, x < 2 ^ 31 → x ||| (2 ^ 31 - 1) = 2 ^ 31 - 1 := fun x hx => by
    apply Nat.eq_of_testBit_eq
    intro i
    rw [Nat.testBit_or, Nat.testBit_two_pow_sub_one]
    by_cases hi : i < 31
    · simp [hi]
    · rw [Nat.testBit_lt_two_pow (Nat.lt_of_lt_of_le hx (Nat.pow_le_pow_right (by omega) (by omega)))]
      simp
  have hb := enc_div a (b :: r)
  have hr := enc_div b r
  apply dm2
  · rw [Nat.and_div_two, Nat.or_div_two, hb, hr, show (2 ^ 32 - 2) / 2 = 2 ^ 31 - 1 by decide, h3 _ (by omega), Nat.and_two_pow_sub_one_eq_mod, Nat.mod_eq_of_lt (by omega), enc_div]
  · have q2 : (enc (a :: b :: r) ||| (2 ^ 32 - 2)) % 2 = if (a || false) then 1 else 0 := or_par (enc_mod a _) (by decide)
    rw [Bool.or_false] at q2
    have q1 := and_par (enc_mod b r) q2
    rw [hb, q1, enc_mod]
theorem or_bit (R : Nat) (b a : Bool) : (2 * R + if b then 1 else 0) ||| (if a then 1 else 0) = 2 * R + if (b || a) then 1 else 0 := by
  apply dm2
  · rw [Nat.or_div_two]
    have e1 : (2 * R + if b then 1 else 0) / 2 = R := by cases b <;> simp only [Bool.false_eq_true, if_true, if_false] <;> omega
    have e2 : (2 * R + if (b || a) then 1 else 0) / 2 = R := by cases (b || a) <;> simp only [Bool.false_eq_true, if_true, if_false] <;> omega
    have e3 : (if a then 1 else 0) / 2 = 0 := by cases a <;> decide
    rw [e1, e2, e3, Nat.or_zero]
  · have e1 : (2 * R + if b then 1 else 0) % 2 = if b then 1 else 0 := by cases b <;> simp only [Bool.false_eq_true, if_true, if_false] <;> omega
    have e2 : (2 * R + if (b || a) then 1 else 0) % 2 = if (b || a) then 1 else 0 := by cases (b || a) <;> simp only [Bool.false_eq_true, if_true, if_false] <;> omega
    rw [or_par (a := b) (b := a) e1 (by cases a <;> decide), e2]
theorem enc_or (a b : Bool) (r : List Bool) (h : enc (a :: b :: r) < 2 ^ 31) : (enc (a :: b :: r) / 2) ||| (enc (a :: b :: r) % 2) = enc ((b || a) :: r) := by
  have h1 : enc (a :: b :: r) / 2 = enc (b :: r) := by
    show (2 * enc (b :: r) + _) / 2 = _
    cases a <;> simp <;> omega
  have e2 : enc (a :: b :: r) % 2 = if a then 1 else 0 := by
    show (2 * enc (b :: r) + _) % 2 = _
    cases a <;> simp
  rw [h1, e2]
  exact or_bit (enc r) b a
theorem b2n (b : Bool) : (if b then (1 : Int32) else 0) = nI (if b then 1 else 0) := by cases b <;> rfl
/-- a truth is pushed -/
theorem enc_push (st : List Bool) (b : Bool) (h : st.length < 20) : gshl (nI (enc st)) 1 ||| (if b then (1 : Int32) else 0) = nI (enc (b :: st)) := by
  have hl := enc_lt20 (n := 20) (Nat.le_of_lt h)
  unfold gshl
  rw [show nI (enc st) <<< ((1 : Int32) &&& 31) = nI (enc st * 2 ^ 1) from pk_shlN _ 1 (sm_l 1 (by omega)) (by omega), b2n, nI_or]
  congr 1
  have := or_bit (enc st) false b
  simp only [Bool.false_or] at this
  rw [show enc st * 2 ^ 1 = 2 * enc st by omega]
  exact this
theorem fcs_A {I : gIt} {P A fc : Nat} (hA : A < 65536) (h : fcs I P A fc) : nI fc &&& 65535 = nI A := by
  rw [show nI fc &&& (65535 : Int32) = nI (fc &&& 65535) from nI_and fc 65535]
  congr 1
  apply tb_ext (n := 16) (Nat.lt_of_le_of_lt Nat.and_le_right (by decide)) hA
  intro k hk
  rw [Nat.testBit_and, show (65535 : Nat) = 2 ^ 16 - 1 from rfl, Nat.testBit_two_pow_sub_one, h.2.1 k hk]
  simp [hk]
theorem x9_joined {I : gIt} {P A fc : Nat} (hA : A < 65536) (hf : fcs I P A fc) {c : Int32} (hc : gword c) {st : List Bool} (hst : (c = -1 ∧ ∃ a r, st = a :: r) ∨ (¬ c = -1 ∧ (c = -2 ∨ c = -3) ∧ ∃ a b r, st = a :: b :: r) ∨ (¬ c = -1 ∧ ¬ c = -2 ∧ ¬ c = -3 ∧ st.length < 20)) (hl : st.length ≤ 20) : p_X9_joined (nI (enc st)) c (nI fc) = some (nI (enc (ew (tru I P A) c st))) := by
  have hv := enc_lt20 hl
  unfold p_X9_joined ew
  rcases hst with ⟨c1, a, r, rfl⟩ | ⟨c1, c2, a, b, r, rfl⟩ | ⟨c1, c2, c3, hn⟩
  · rw [if_pos c1, if_pos c1]
    rw [show nI (enc (a :: r)) ^^^ (1 : Int32) = nI (enc (a :: r) ^^^ 1) from nI_xor _ 1, enc_not]
  · rw [if_neg c1, if_neg c1]
    rcases c2 with c2 | c2
    · rw [if_pos c2, if_pos c2, ush_1 (by omega), show (-2 : Int32) = nI (2 ^ 32 - 2) by decide, nI_or, nI_and, enc_and _ _ _ (by omega)]
    · have c2' : ¬ c = -2 := by rw [c2]; decide
      rw [if_neg c2', if_neg c2', if_pos c2, if_pos c2, ush_1 (by omega), and1 (by omega), nI_or, enc_or _ _ _ (by omega)]
  · rw [if_neg c1, if_neg c2, if_neg c3, if_neg c1, if_neg c2, if_neg c3, fcs_A hA hf, bitCount hA, gB_v]
    have key : (gB (α := Int32) (if (100 : Int32) ≤ c then if (200 : Int32) ≤ c then if (300 : Int32) ≤ c then if nI (gpc 16 A) = (c - (300 : Int32)) then some (1 : Int32) else some (0 : Int32) else if nI (gpc 16 A) ≤ (c - (200 : Int32)) then some (0 : Int32) else some (1 : Int32) else if (c - (100 : Int32)) ≤ nI (gpc 16 A) then some (0 : Int32) else some (1 : Int32) else if ((gushr (nI fc) c) &&& (1 : Int32)) = (1 : Int32) then some (1 : Int32) else some (0 : Int32)) fun ph6 => some ph6) = some (if tru I P A c then 1 else 0) := by
      unfold tru
      rcases hc with hc | hc | hc | hc | hc
      · exact absurd hc c1
      · exact absurd hc c2
      · exact absurd hc c3
      · obtain ⟨w, hw, e, tw⟩ := i_of hc.1
        rw [if_neg (by rw [Int32.le_iff_toInt_le]; simp only [Int32.reduceToInt]; omega), e, ush1 hf.1 (by omega)]
        by_cases q : w < 16
        · rw [if_pos (show nI w < (16 : Int32) from nI_lt (b := 16) q (by omega)), nI_clamp (by omega), hf.2.1 w q]
          cases A.testBit w <;> rfl
        · rw [if_neg (show ¬ nI w < (16 : Int32) from nI_nlt (b := 16) (by omega) (by omega)), if_pos (show nI w < (32 : Int32) from nI_lt (b := 32) (by omega) (by omega)), show nI w - (16 : Int32) = nI (w - 16) from pk_sub (b := 16) (by omega), nI_clamp (by omega)]
          have := hf.2.2 (w - 16) (by omega)
          rw [show 16 + (w - 16) = w by omega] at this
          rw [this]
          cases (!decide (cs I P A (w - 16) = 0)) <;> rfl
      · have n16 : ¬ c < 16 := by rw [Int32.lt_iff_toInt_lt]; simp only [Int32.reduceToInt]; omega
        have n32 : ¬ c < 32 := by rw [Int32.lt_iff_toInt_lt]; simp only [Int32.reduceToInt]; omega
        rw [if_neg n16, if_neg n32, if_pos (show (100 : Int32) ≤ c by rw [Int32.le_iff_toInt_le]; simp only [Int32.reduceToInt]; omega)]
        by_cases q1 : c.toInt < 200
        · rw [if_neg (show ¬ (200 : Int32) ≤ c by rw [Int32.le_iff_toInt_le]; simp only [Int32.reduceToInt]; omega), if_pos (show c < 200 by rw [Int32.lt_iff_toInt_lt]; simp only [Int32.reduceToInt]; omega)]
          by_cases z : (c - (100 : Int32)) ≤ nI (gpc 16 A)
          · have z' : ¬ nI (gpc 16 A) < c - 100 := by rw [Int32.le_iff_toInt_le] at z; rw [Int32.lt_iff_toInt_lt]; omega
            simp [z, z', gB]
          · have z' : nI (gpc 16 A) < c - 100 := by rw [Int32.le_iff_toInt_le] at z; rw [Int32.lt_iff_toInt_lt]; omega
            simp [z, z', gB]
        · rw [if_pos (show (200 : Int32) ≤ c by rw [Int32.le_iff_toInt_le]; simp only [Int32.reduceToInt]; omega), if_neg (show ¬ c < 200 by rw [Int32.lt_iff_toInt_lt]; simp only [Int32.reduceToInt]; omega)]
          by_cases q2 : c.toInt < 300
          · rw [if_neg (show ¬ (300 : Int32) ≤ c by rw [Int32.le_iff_toInt_le]; simp only [Int32.reduceToInt]; omega), if_pos (show c < 300 by rw [Int32.lt_iff_toInt_lt]; simp only [Int32.reduceToInt]; omega)]
            by_cases z : nI (gpc 16 A) ≤ (c - (200 : Int32))
            · have z' : ¬ c - 200 < nI (gpc 16 A) := by rw [Int32.le_iff_toInt_le] at z; rw [Int32.lt_iff_toInt_lt]; omega
              simp [z, z', gB]
            · have z' : c - 200 < nI (gpc 16 A) := by rw [Int32.le_iff_toInt_le] at z; rw [Int32.lt_iff_toInt_lt]; omega
              simp [z, z', gB]
          · rw [if_pos (show (300 : Int32) ≤ c by rw [Int32.le_iff_toInt_le]; simp only [Int32.reduceToInt]; omega), if_neg (show ¬ c < 300 by rw [Int32.lt_iff_toInt_lt]; simp only [Int32.reduceToInt]; omega)]
            by_cases z : nI (gpc 16 A) = (c - (300 : Int32))
            · simp [z, gB]
            · simp [z, gB]
    have key2 : ∀ (o : Option Int32), gB o (fun ph6 => some ph6) = some (if tru I P A c then 1 else 0) → gB o (fun ph6 => if ph6 = 0 then some ((gshl (nI (enc st)) (1 : Int32)) ||| (0 : Int32)) else some ((gshl (nI (enc st)) (1 : Int32)) ||| (1 : Int32))) = some (nI (enc (tru I P A c :: st))) := by
      intro o ho
      have : o = some (if tru I P A c then 1 else 0) := by
        cases o with
        | none => exact absurd ho (by simp [gB])
        | some v => exact ho
      rw [this, gB_v, ← enc_push st (tru I P A c) hn]
      cases tru I P A c <;> rfl
    exact key2 _ key
