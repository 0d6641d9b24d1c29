/-! ===== who is known on a year; whose children; who is named ===== -/
def anyb (f : Nat → Bool) : Nat → Bool
  | 0 => false
  | n + 1 => anyb f n || f n
theorem anyb_iff (f : Nat → Bool) (n : Nat) : anyb f n = true ↔ ∃ k, k < n ∧ f k = true := by
  induction n with
  | zero =>
    constructor
    · intro h; exact absurd h (by unfold anyb; decide)
    · rintro ⟨k, hk, -⟩; omega
  | succ n ih =>
    unfold anyb
    rw [Bool.or_eq_true, ih]
    constructor
    · rintro (⟨k, hk, h⟩ | h)
      · exact ⟨k, by omega, h⟩
      · exact ⟨n, by omega, h⟩
    · rintro ⟨k, hk, h⟩
      by_cases e : k = n
      · rw [e] at h; exact Or.inr h
      · exact Or.inl ⟨k, by omega, h⟩
theorem gM_up {p : Nat → Bool} {n m : Nat} (h : n ≤ m) (hp : ∀ k, n ≤ k → k < m → p k = false) : gM p m = gM p n := by
  apply tb_ext (n := m) (gM_lt _ _) (Nat.lt_of_lt_of_le (gM_lt _ _) (Nat.pow_le_pow_right (by omega) h))
  intro k hk
  rw [gM_tb, gM_tb]
  by_cases h1 : k < n
  · simp [h1, hk]
  · rw [hp k (by omega) hk]
    simp
def thr (I : gIt) (P : Nat) (t : Int32) (o : Nat) : Bool := decide (o < P ∧ (I 4 o).toInt ≤ t.toInt)
def ded (I : gIt) (t : Int32) (o : Nat) : Bool := decide (¬ I 5 o = -1 ∧ (I 6 o).toInt ≤ t.toInt)
def chd (I : gIt) (P : Nat) (t : Int32) (q o : Nat) : Bool := thr I P t o && decide (I 3 o = nI q)
/-- what learning leaves behind it -/
def lrn (I : gIt) (P : Nat) (t : Int32) (k : Nat) (r : gIt) : Prop := (∀ x, x ≠ 74 → x ≠ 75 → r x = I x) ∧ r 74 1 = nI (gM (thr I P t) k) ∧ r 74 2 = nI (gM (fun o => thr I P t o && ded I t o) k) ∧ (∀ q, q < 16 → r 75 q = nI (gM (chd I P t q) k))
theorem lrn_keep {I r : gIt} {P k : Nat} {t : Int32} (h : lrn I P t k r) : gkeep I r := by
  have e := h.1
  refine ⟨fun x hx => e x (by rintro rfl; unfold gco at hx; omega) (by rintro rfl; unfold gco at hx; omega), ⟨?_, ?_, ?_, ?_, ?_, ?_, ?_, ?_, ?_, ?_⟩, ⟨?_, ?_, ?_, ?_, ?_, ?_⟩, ?_, ?_, ?_, ?_, ?_, ?_, ?_, ?_, ?_, ?_, ?_⟩ <;> rw [e _ (by decide) (by decide)]
theorem x5_learn_33 {I : gIt} {P : Nat} (hP : P ≤ 16) (h : I 1 7 = nI P) (hp : ∀ o, o < P → iPer1 I o) (t : Int32) : ∀ (d f k : Nat) (r : gIt), k + d = P → d < f → lrn I P t k r → ∃ r', p_X5_learn_33 t f r (nI k) = some r' ∧ lrn I P t P r' := by
  intro d
  induction d with
  | zero =>
    intro f k r hk hf hl
    obtain ⟨f, rfl⟩ : ∃ q, f = q + 1 := ⟨f - 1, by omega⟩
    have : k = P := by omega
    subst this
    refine ⟨r, ?_, hl⟩
    unfold p_X5_learn_33
    rw [hl.1 1 (by decide) (by decide), h, if_pos (nI_le (by omega) (by omega))]
  | succ d ih =>
    intro f k r hk hf hl
    obtain ⟨f, rfl⟩ : ∃ q, f = q + 1 := ⟨f - 1, by omega⟩
    obtain ⟨l1, l2, l3, l4⟩ := id hl
    have g : gin (nI k) 16 = true := gin_nI (by omega) (by omega)
    have hc : (nI k).toNatClampNeg = k := nI_clamp (by omega)
    unfold p_X5_learn_33
    rw [l1 1 (by decide) (by decide), h, if_neg (nI_ge (by omega) (by omega)), if_neg (show ¬ (16 : Int32) ≤ nI k from nI_ge (b := 16) (by omega) (by omega)), gck_t g, hc, l1 4 (by decide) (by decide), nI_1]
    simp only [Int32.le_iff_toInt_le]
    by_cases c : (I 4 k).toInt ≤ t.toInt
    · rw [if_pos c]
      have ht : thr I P t k = true := by unfold thr; simp [c]; omega
      unfold gL
      dsimp only
      rw [l2, shl1 (by omega), nI_or, gM_s1 _ ht, x7_kd (gu2 r 74 1 (nI (gM (thr I P t) (k + 1)))) hP (show gu2 r 74 1 (nI (gM (thr I P t) (k + 1))) 1 7 = nI P by rw [gu_rd (by decide), l1 1 (by decide) (by decide), h]) (by omega), gu_rd (by decide), gu_rd (by decide), l1 5 (by decide) (by decide), l1 6 (by decide) (by decide)]
      have e2 : gB (some (if ¬ I 5 k = -1 ∧ (I 6 k).toInt ≤ t.toInt then (1 : Int32) else 0)) (fun r10 => gB (α := Int32) (if r10 = 0 then some (0 : Int32) else some (nI (2 ^ k))) fun ph12 => some ph12) = some (nI (if (thr I P t k && ded I t k) then 2 ^ k else 0)) := by
        rw [ht]
        unfold ded
        by_cases q : ¬ I 5 k = -1 ∧ (I 6 k).toInt ≤ t.toInt
        · simp [q, gB]
        · simp only [if_neg q, decide_eq_false q]
          rfl
      -- the rest, for what the dead are
      have go : ∀ r2 : gIt, lrn I P t k r → (∀ x, x ≠ 74 → x ≠ 75 → r2 x = I x) → r2 74 1 = nI (gM (thr I P t) (k + 1)) → r2 74 2 = nI (gM (fun o => thr I P t o && ded I t o) (k + 1)) → (∀ q, r2 75 q = r 75 q) → ∃ r', (gck (gin (nI k) 16) (if r2 3 k < 0 then p_X5_learn_33 t f r2 (nI (k + 1)) else if (16 : Int32) ≤ r2 3 k then p_X5_learn_33 t f r2 (nI (k + 1)) else gck (gin (r2 3 k) 16) (gck (gin (r2 3 k) 16) (p_X5_learn_33 t f (gu2 r2 75 (r2 3 k).toNatClampNeg (r2 75 (r2 3 k).toNatClampNeg ||| nI (2 ^ k))) (nI (k + 1)))))) = some r' ∧ lrn I P t P r' := by
        intro r2 _ z1 z2 z3 z4
        rw [gck_t g, z1 3 (by decide) (by decide)]
        rcases (hp k (by omega)).2.2.1 with z | ⟨q, hq, z⟩
        · rw [z, if_pos (by decide)]
          refine ih f (k + 1) r2 (by omega) (by omega) ⟨z1, z2, z3, fun x hx => ?_⟩
          rw [z4, l4 x hx]
          congr 1
          apply gM_s0
          unfold chd
          rw [z]
          have : ¬ (-1 : Int32) = nI x := fun q => by have := congrArg Int32.toInt q; rw [nI_toInt (by omega)] at this; exact absurd this (by simp)
          simp [this]
        · rw [z, if_neg (nI_pos (by omega)), if_neg (show ¬ (16 : Int32) ≤ nI q from nI_ge (b := 16) (by omega) (by omega)), gck_t (gin_nI (by omega) (by omega)), gck_t (gin_nI (by omega) (by omega)), nI_clamp (by omega), z4, l4 q (by omega), nI_or]
          refine ih f (k + 1) _ (by omega) (by omega) ⟨fun x h1 h2 => by rw [gu2_ne h2]; exact z1 x h1 h2, by rw [gu_rd (by decide)]; exact z2, by rw [gu_rd (by decide)]; exact z3, fun x hx => ?_⟩
          rw [gu_sl]
          by_cases e : x = q
          · subst e
            rw [if_pos rfl, gM_s1]
            unfold chd
            rw [ht, z]
            simp
          · rw [if_neg e, z4, l4 x hx]
            congr 1
            apply gM_s0
            unfold chd
            rw [z]
            have : ¬ nI q = nI x := fun y => by rw [nI_eq (by omega) (by omega)] at y; omega
            simp [this]
      have e3 : gM (fun o => thr I P t o && ded I t o) k ||| (if (thr I P t k && ded I t k) then 2 ^ k else 0) = gM (fun o => thr I P t o && ded I t o) (k + 1) := rfl
      by_cases q : ¬ I 5 k = -1 ∧ (I 6 k).toInt ≤ t.toInt
      · have hd : (thr I P t k && ded I t k) = true := by rw [ht]; unfold ded; simp [q]
        rw [if_pos hd] at e3
        rw [if_pos q]
        show ∃ r', (gck _ _) = some r' ∧ _
        simp only [gu_rd, ne_eq, Nat.reduceEqDiff, not_false_eq_true, gu_sl, if_true, if_neg (show ¬ (1 : Int32) = 0 by decide), hc, l3, nI_or, e3, if_false]
        have := go (gu2 (gu2 r 74 1 (nI (gM (thr I P t) (k + 1)))) 74 2 (nI (gM (fun o => thr I P t o && ded I t o) (k + 1)))) hl (fun x h1 h2 => by rw [gu2_ne h1, gu2_ne h1]; exact l1 x h1 h2) rfl rfl (fun q => rfl)
        simp only [gu_rd, ne_eq, Nat.reduceEqDiff, not_false_eq_true, Int32.le_iff_toInt_le] at this
        exact this
      · have hd : ¬ (thr I P t k && ded I t k) = true := by rw [ht]; unfold ded; simp only [decide_eq_false q]; decide
        rw [if_neg hd, Nat.or_zero] at e3
        rw [if_neg q]
        show ∃ r', (gck _ _) = some r' ∧ _
        simp only [gu_rd, ne_eq, Nat.reduceEqDiff, not_false_eq_true, gu_sl, if_true, hc, l3, if_false]
        have e4 : nI (gM (fun o => thr I P t o && ded I t o) k) ||| 0 = nI (gM (fun o => thr I P t o && ded I t o) (k + 1)) := by
          rw [← e3]
          show _ ||| nI 0 = _
          rw [nI_or, Nat.or_zero]
        rw [e4]
        have := go (gu2 (gu2 r 74 1 (nI (gM (thr I P t) (k + 1)))) 74 2 (nI (gM (fun o => thr I P t o && ded I t o) (k + 1)))) hl (fun x h1 h2 => by rw [gu2_ne h1, gu2_ne h1]; exact l1 x h1 h2) rfl rfl (fun q => rfl)
        simp only [gu_rd, ne_eq, Nat.reduceEqDiff, not_false_eq_true, Int32.le_iff_toInt_le] at this
        exact this
    · rw [if_neg c]
      have ht : ¬ thr I P t k = true := by unfold thr; simp [c]
      refine ih f (k + 1) r (by omega) (by omega) ⟨l1, ?_, ?_, fun q hq => ?_⟩
      · rw [l2, ← gM_s0 _ ht]
      · rw [l3, ← gM_s0 _ (by simp [ht])]
      · rw [l4 q hq, ← gM_s0 _ (by unfold chd; simp [ht])]
theorem x5_learn_12 {I : gIt} {P : Nat} (hP : P ≤ 16) (h : I 1 7 = nI P) (hp : ∀ o, o < P → iPer1 I o) (t : Int32) : ∀ (d f k : Nat) (r : gIt), k + d = 16 → d < f → (∀ x, x ≠ 74 → x ≠ 75 → r x = I x) → r 74 1 = 0 → r 74 2 = 0 → (∀ q, q < k → r 75 q = 0) → ∃ r', p_X5_learn_12 t f r (nI k) = some r' ∧ lrn I P t P r' := by
  intro d
  induction d with
  | zero =>
    intro f k r hk hf l1 l2 l3 l4
    obtain ⟨f, rfl⟩ : ∃ q, f = q + 1 := ⟨f - 1, by omega⟩
    have : k = 16 := by omega
    subst this
    unfold p_X5_learn_12
    rw [if_pos (show (16 : Int32) ≤ nI 16 by decide)]
    exact x5_learn_33 hP h hp t P gFu 0 r (by omega) (by unfold gFu; omega) ⟨l1, l2, l3, fun q hq => l4 q hq⟩
  | succ d ih =>
    intro f k r hk hf l1 l2 l3 l4
    obtain ⟨f, rfl⟩ : ∃ q, f = q + 1 := ⟨f - 1, by omega⟩
    unfold p_X5_learn_12 gL
    rw [if_neg (show ¬ (16 : Int32) ≤ nI k from nI_ge (b := 16) (by omega) (by omega)), gck_t (gin_nI (by omega) (by omega)), nI_clamp (by omega), nI_1]
    refine ih f (k + 1) _ (by omega) (by omega) (fun x h1 h2 => by rw [gu2_ne h2]; exact l1 x h1 h2) (by rw [gu_rd (by decide)]; exact l2) (by rw [gu_rd (by decide)]; exact l3) (fun q hq => ?_)
    rw [gu_sl]
    by_cases e : q = k
    · rw [if_pos e]
    · rw [if_neg e]; exact l4 q (by omega)
theorem lrn_16 {I r : gIt} {P : Nat} {t : Int32} (hP : P ≤ 16) (h : lrn I P t P r) : lrn I P t 16 r := by
  obtain ⟨l1, l2, l3, l4⟩ := h
  have z : ∀ k, P ≤ k → k < 16 → thr I P t k = false := fun k hk _ => by unfold thr; exact decide_eq_false (by omega)
  refine ⟨l1, ?_, ?_, fun q hq => ?_⟩
  · rw [l2, gM_up hP z]
  · rw [l3, gM_up hP (fun k h1 h2 => by rw [z k h1 h2]; rfl)]
  · rw [l4 q hq, gM_up hP (fun k h1 h2 => by unfold chd; rw [z k h1 h2]; rfl)]
theorem x5_learn_0 {I : gIt} {P : Nat} (hP : P ≤ 16) (h : I 1 7 = nI P) (hp : ∀ o, o < P → iPer1 I o) (t : Int32) (f : Nat) (hf : 16 < f) : ∃ r, p_X5_learn_12 t f (gu2 (gu2 I 74 1 0) 74 2 0) (nI 0) = some r ∧ lrn I P t 16 r := by
  obtain ⟨r, e, l⟩ := x5_learn_12 hP h hp t 16 f 0 (gu2 (gu2 I 74 1 0) 74 2 0) (by omega) hf (fun x h1 h2 => by rw [gu2_ne h1, gu2_ne h1]) (by rw [gu_sl, if_neg (by decide), gu_sl, if_pos rfl]) (by rw [gu_sl, if_pos rfl]) (fun q hq => by omega)
  exact ⟨r, e, lrn_16 hP l⟩
theorem gL_b {α β : Type} (x : α) (f : α → Option β) : gL x f = f x := rfl
theorem x5_learn {I : gIt} {P : Nat} (hP : P ≤ 16) (h : I 1 7 = nI P) (hp : ∀ o, o < P → iPer1 I o) (t : Int32) : ∃ r, p_X5_learn I t = some r ∧ lrn I P t 16 r := by
  have := x5_learn_0 hP h hp t gFu (by unfold gFu; omega)
  rw [p_X5_learn, gL_b, gL_b]
  exact this
/-- the reference: who is there, whose children -/
theorem x12_isThere {I : gIt} {P : Nat} (hP : P ≤ 16) (h : I 149 3 = nI P) (hp : ∀ o, o < P → iPer1 I o) (t : Int32) {o : Nat} (ho : o < 16) : p_X12_isThere I (nI o) t = some (if thr I P t o then 1 else 0) := by
  unfold p_X12_isThere thr
  by_cases c : o < P
  · rw [gB_y _ (x12_isPerson I hP h _) (in_y c (by omega)), if_neg (by decide), gck_t (gin_nI (by omega) (by omega)), nI_clamp (by omega), (hp o c).1.2.2.1]
    simp only [Int32.lt_iff_toInt_lt]
    by_cases c2 : t.toInt < (I 4 o).toInt
    · rw [if_pos c2]
      have : ¬ (I 4 o).toInt ≤ t.toInt := by omega
      simp [this]
    · rw [if_neg c2]
      have : (I 4 o).toInt ≤ t.toInt := by omega
      simp [this, c]
  · rw [gB_n _ (x12_isPerson I hP h _) (by rw [nI_toInt (by omega)]; omega), if_pos rfl]
    simp [c]
theorem x12_chd_loop {I : gIt} {P : Nat} (hP : P ≤ 16) (h : I 149 3 = nI P) (hp : ∀ o, o < P → iPer1 I o) (t : Int32) (q : Nat) : ∀ (d f k : Nat), k + d = P → d < f → p_X12_childrenOf_5 I (nI q) t f (nI (gM (chd I P t q) k)) (nI k) = some (nI (gM (chd I P t q) P)) := by
  intro d
  induction d with
  | zero =>
    intro f k hk hf
    obtain ⟨f, rfl⟩ : ∃ q, f = q + 1 := ⟨f - 1, by omega⟩
    unfold p_X12_childrenOf_5
    rw [h, if_pos (nI_le (by omega) (by omega)), show k = P by omega]
  | succ d ih =>
    intro f k hk hf
    obtain ⟨f, rfl⟩ : ∃ q, f = q + 1 := ⟨f - 1, by omega⟩
    unfold p_X12_childrenOf_5 gL
    have o0 : ∀ m, nI m ||| (0 : Int32) = nI m := fun m => by show _ ||| nI 0 = _; rw [nI_or, Nat.or_zero]
    rw [h, if_neg (nI_ge (by omega) (by omega)), gck_t (gin_nI (by omega) (by omega)), nI_clamp (by omega), (hp k (by omega)).1.2.1, x12_isThere hP h hp t (by omega), o0, shl1 (by omega), nI_or, nI_1]
    by_cases c : I 3 k = nI q
    · rw [if_pos c]
      by_cases c2 : thr I P t k = true
      · rw [if_pos c2]
        show p_X12_childrenOf_5 I (nI q) t f (nI (gM (chd I P t q) k ||| 2 ^ k)) (nI (k + 1)) = _
        rw [gM_s1 _ (by unfold chd; simp [c2, c])]
        exact ih f (k + 1) (by omega) (by omega)
      · rw [if_neg c2]
        show p_X12_childrenOf_5 I (nI q) t f (nI (gM (chd I P t q) k)) (nI (k + 1)) = _
        rw [gM_s0 _ (by unfold chd; simp [c2])]
        exact ih f (k + 1) (by omega) (by omega)
    · rw [if_neg c]
      dsimp only
      rw [gM_s0 (chd I P t q) (by unfold chd; simp [c])]
      exact ih f (k + 1) (by omega) (by omega)
theorem x12_childrenOf {I : gIt} {P : Nat} (hP : P ≤ 16) (h : I 149 3 = nI P) (hp : ∀ o, o < P → iPer1 I o) (t : Int32) (q : Nat) : p_X12_childrenOf I (nI q) t = some (nI (gM (chd I P t q) 16)) := by
  unfold p_X12_childrenOf
  have e := x12_chd_loop hP h hp t q P gFu 0 (by omega) (by unfold gFu; omega)
  rw [show p_X12_childrenOf_5 I (nI q) t gFu 0 0 = _ from e, gM_up hP (fun k hk _ => by unfold chd thr; rw [decide_eq_false (by omega)]; rfl)]
