/-! ===== who is named in a settlement, as known on a year ===== -/
def NMb (I : gIt) (P : Nat) (t : Int32) (s o : Nat) : Bool := (!decide (I (14 + 6 * s) 6 = nI o)) && ((decide (gushr (I (14 + 6 * s) 11) (nI o) &&& 1 = 1) && thr I P t o) || anyb (fun q => decide (gushr (I (14 + 6 * s) 12) (nI q) &&& 1 = 1) && chd I P t q o) 16)
def nmS (I : gIt) (P : Nat) (t : Int32) (s : Nat) : Nat := gM (NMb I P t s) 16
theorem tb_or {a b k : Nat} : (a ||| b).testBit k = true ↔ (a.testBit k = true ∨ b.testBit k = true) := by rw [Nat.testBit_or, Bool.or_eq_true]
theorem tb_and {a b k : Nat} : (a &&& b).testBit k = true ↔ (a.testBit k = true ∧ b.testBit k = true) := by rw [Nat.testBit_and, Bool.and_eq_true]
theorem or_lt {a b : Nat} (h : a < 65536) (hb : b < 65536) : a ||| b < 65536 := Nat.or_lt_two_pow (n := 16) h hb
theorem gM_tb16 (p : Nat → Bool) {k : Nat} (hk : k < 16) : (gM p 16).testBit k = p k := by rw [gM_tb]; simp [hk]
theorem gM_16 (p : Nat → Bool) : gM p 16 < 65536 := gM_lt p 16
theorem NMb_iff (I : gIt) (P : Nat) (t : Int32) (s o : Nat) : NMb I P t s o = true ↔ (¬ I (14 + 6 * s) 6 = nI o) ∧ ((gushr (I (14 + 6 * s) 11) (nI o) &&& 1 = 1 ∧ thr I P t o = true) ∨ ∃ q, q < 16 ∧ gushr (I (14 + 6 * s) 12) (nI q) &&& 1 = 1 ∧ chd I P t q o = true) := by
  unfold NMb
  rw [Bool.and_eq_true, Bool.or_eq_true, anyb_iff, Bool.not_eq_true', decide_eq_false_iff_not]
  simp only [Bool.and_eq_true, decide_eq_true_eq]
theorem tb_notT {m T o : Nat} (ho : o < 16) : (m &&& (2 ^ T ^^^ (2 ^ 32 - 1))).testBit o = true ↔ (m.testBit o = true ∧ ¬ o = T) := by
  rw [tb_not _ _ _ (by omega), Bool.and_eq_true, Bool.not_eq_true', decide_eq_false_iff_not]
/-- what is known on the year t lies in r, and all else that calls leave to the next as in I -/
def knw (I : gIt) (P : Nat) (t : Int32) (r : gIt) : Prop := gkeep I r ∧ r 74 1 = nI (gM (thr I P t) 16) ∧ r 74 2 = nI (gM (fun o => thr I P t o && ded I t o) 16) ∧ (∀ q, q < 16 → r 75 q = nI (gM (chd I P t q) 16))
theorem lrn_knw {I r : gIt} {P : Nat} {t : Int32} (h : lrn I P t 16 r) : knw I P t r := ⟨lrn_keep h, h.2⟩
theorem gk_set {I r : gIt} (h : gkeep I r) {s : Nat} (hs : s < 10) : r (14 + 6 * s) = I (14 + 6 * s) := h.1 _ (by unfold gco; omega)
theorem x5_namedIn_12 {I r : gIt} {P : Nat} {t : Int32} (hl : knw I P t r) {s : Nat} (hs : s < 10) {T : Nat} (hT : T < 16) (eT : I (14 + 6 * s) 6 = nI T) : ∀ (d f k m : Nat), k + d = 16 → d < f → m < 65536 → (∀ o, o < 16 → (m.testBit o = true ↔ ((gushr (I (14 + 6 * s) 11) (nI o) &&& 1 = 1 ∧ thr I P t o = true) ∨ ∃ q, q < k ∧ gushr (I (14 + 6 * s) 12) (nI q) &&& 1 = 1 ∧ chd I P t q o = true))) → p_X5_namedIn_12 r (14 + 6 * s) f (nI m) (nI k) = some (nI (nmS I P t s)) := by
  intro d
  have er : ∀ j, r (14 + 6 * s) j = I (14 + 6 * s) j := fun j => by rw [gk_set hl.1 hs]
  induction d with
  | zero =>
    intro f k m hk hf hm hb
    obtain ⟨f, rfl⟩ : ∃ q, f = q + 1 := ⟨f - 1, by omega⟩
    have : k = 16 := by omega
    subst this
    unfold p_X5_namedIn_12
    rw [if_pos (show (16 : Int32) ≤ nI 16 by decide), er, eT, shl1 (by omega), nI_not _ _ (by omega)]
    congr 2
    apply tb_ext (n := 16) (lt_and hm) (gM_16 _)
    intro o ho
    rw [Bool.eq_iff_iff, tb_notT ho, hb o ho]
    rw [gM_tb16 _ ho, NMb_iff, eT, nI_eq (by omega) (by omega)]
    constructor
    · rintro ⟨h1, h2⟩; exact ⟨fun q => h2 q.symm, h1⟩
    · rintro ⟨h1, h2⟩; exact ⟨h2, fun q => h1 q.symm⟩
  | succ d ih =>
    intro f k m hk hf hm hb
    obtain ⟨f, rfl⟩ : ∃ q, f = q + 1 := ⟨f - 1, by omega⟩
    unfold p_X5_namedIn_12 gL
    rw [if_neg (show ¬ (16 : Int32) ≤ nI k from nI_ge (b := 16) (by omega) (by omega)), er, gck_t (gin_nI (by omega) (by omega)), nI_clamp (by omega), nI_1, hl.2.2.2 k (by omega), nI_or]
    by_cases c : gushr (I (14 + 6 * s) 12) (nI k) &&& 1 = 1
    · rw [if_pos c]
      refine ih f (k + 1) _ (by omega) (by omega) (or_lt hm (gM_16 _)) (fun o ho => ?_)
      rw [tb_or, hb o ho, gM_tb16 _ ho]
      constructor
      · rintro ((h | ⟨q, h1, h2⟩) | h)
        · exact Or.inl h
        · exact Or.inr ⟨q, by omega, h2⟩
        · exact Or.inr ⟨k, by omega, c, h⟩
      · rintro (h | ⟨q, h1, h2, h3⟩)
        · exact Or.inl (Or.inl h)
        · by_cases e : q = k
          · rw [e] at h3; exact Or.inr h3
          · exact Or.inl (Or.inr ⟨q, by omega, h2, h3⟩)
    · rw [if_neg c]
      refine ih f (k + 1) m (by omega) (by omega) hm (fun o ho => ?_)
      rw [hb o ho]
      constructor
      · rintro (h | ⟨q, h1, h2⟩)
        · exact Or.inl h
        · exact Or.inr ⟨q, by omega, h2⟩
      · rintro (h | ⟨q, h1, h2, h3⟩)
        · exact Or.inl h
        · by_cases e : q = k
          · rw [e] at h2; exact absurd h2 c
          · exact Or.inr ⟨q, by omega, h2, h3⟩
theorem x5_namedIn {I r : gIt} {P : Nat} {t : Int32} (hP : P ≤ 16) (hl : knw I P t r) {s : Nat} (hs : s < 10) (hset : iSet1 I P s) : p_X5_namedIn r (14 + 6 * s) = some (nI (nmS I P t s)) := by
  obtain ⟨-, ⟨-, T, hT, eT⟩, -⟩ := hset
  obtain ⟨L, hL, eL⟩ := nI_all (I (14 + 6 * s) 11)
  rw [p_X5_namedIn, gL_b, hl.2.1, gk_set hl.1 hs, eL, nI_and]
  refine x5_namedIn_12 hl hs (T := T) (by omega) eT 16 gFu 0 _ (by omega) (by unfold gFu; omega) (Nat.lt_of_le_of_lt Nat.and_le_right (gM_16 _)) (fun o ho => ?_)
  rw [tb_and, gM_tb16 _ ho, eL, ush1_1 hL (by omega)]
  constructor
  · exact Or.inl
  · rintro (h | ⟨q, h1, -⟩)
    · exact h
    · omega
/-! the reference: all takers, all words -/
def wn (I : gIt) (P : Nat) (t : Int32) (w o : Nat) : Bool := if w < 16 then decide (o = w) && thr I P t o else chd I P t (w - 16) o
def NA (I : gIt) (P : Nat) (t : Int32) (s a b o : Nat) : Prop := (∃ y, y < a ∧ ∃ w, w < 32 ∧ I (17 + 6 * s) y = nI w ∧ wn I P t w o = true) ∨ (∃ i, i < b ∧ ∃ w, w < 32 ∧ I (19 + 6 * s) i = nI w ∧ wn I P t w o = true)
theorem NA_a {I : gIt} {P : Nat} {t : Int32} {s a b w o : Nat} (hw : w < 32) (e : I (17 + 6 * s) a = nI w) : NA I P t s (a + 1) b o ↔ (NA I P t s a b o ∨ wn I P t w o = true) := by
  unfold NA
  constructor
  · rintro (⟨y, hy, w', hw', e', h⟩ | h)
    · by_cases q : y = a
      · subst q
        rw [e, nI_eq (by omega) (by omega)] at e'
        rw [e']
        exact Or.inr h
      · exact Or.inl (Or.inl ⟨y, by omega, w', hw', e', h⟩)
    · exact Or.inl (Or.inr h)
  · rintro ((⟨y, hy, h⟩ | h) | h)
    · exact Or.inl ⟨y, by omega, h⟩
    · exact Or.inr h
    · exact Or.inl ⟨a, by omega, w, hw, e, h⟩
theorem NA_b {I : gIt} {P : Nat} {t : Int32} {s a b w o : Nat} (hw : w < 32) (e : I (19 + 6 * s) b = nI w) : NA I P t s a (b + 1) o ↔ (NA I P t s a b o ∨ wn I P t w o = true) := by
  unfold NA
  constructor
  · rintro (h | ⟨y, hy, w', hw', e', h⟩)
    · exact Or.inl (Or.inl h)
    · by_cases q : y = b
      · subst q
        rw [e, nI_eq (by omega) (by omega)] at e'
        rw [e']
        exact Or.inr h
      · exact Or.inl (Or.inr ⟨y, by omega, w', hw', e', h⟩)
  · rintro ((h | ⟨y, hy, h⟩) | h)
    · exact Or.inl h
    · exact Or.inr ⟨y, by omega, h⟩
    · exact Or.inr ⟨b, by omega, w, hw, e, h⟩
theorem NA_n {I : gIt} {P : Nat} {t : Int32} {s a b o : Nat} (h : ∀ w, w < 32 → ¬ I (19 + 6 * s) b = nI w) : NA I P t s a (b + 1) o ↔ NA I P t s a b o := by
  unfold NA
  constructor
  · rintro (h1 | ⟨y, hy, w', hw', e', h1⟩)
    · exact Or.inl h1
    · by_cases q : y = b
      · rw [q] at e'; exact absurd e' (h w' hw')
      · exact Or.inr ⟨y, by omega, w', hw', e', h1⟩
  · rintro (h1 | ⟨y, hy, h1⟩)
    · exact Or.inl h1
    · exact Or.inr ⟨y, by omega, h1⟩
/-- a word is one that names, or none of its two kinds -/
theorem gword_or {c : Int32} (h : gword c) : (∃ w, w < 16 ∧ c = nI w ∧ gmc c = 1 ∧ gma c = nI w) ∨ (∃ w, w < 16 ∧ c = nI (16 + w) ∧ gmc c = 2 ∧ gma c = nI w) ∨ ((∀ w, w < 32 → ¬ c = nI w) ∧ ¬ gmc c = 1 ∧ ¬ gmc c = 2) := by
  have no : (¬ (0 ≤ c.toInt ∧ c.toInt < 32)) → ∀ w, w < 32 → ¬ c = nI w := fun q w hw e => q (by rw [e, nI_toInt (by omega)]; omega)
  by_cases c1 : 0 ≤ c.toInt ∧ c.toInt < 32
  · obtain ⟨w, hw, e, tw⟩ := i_of c1.1
    by_cases c2 : w < 16
    · left
      refine ⟨w, c2, e, ?_, ?_⟩
      · unfold gmc
        simp only [← Int32.toInt_inj, Int32.lt_iff_toInt_lt, Int32.reduceToInt]
        rw [if_neg (by omega), if_neg (by omega), if_neg (by omega), if_pos (by omega)]
        rfl
      · unfold gma
        simp only [Int32.lt_iff_toInt_lt, Int32.reduceToInt]
        rw [if_neg (by omega), if_pos (by omega), e]
    · right; left
      refine ⟨w - 16, by omega, by rw [e]; congr 1; omega, ?_, ?_⟩
      · unfold gmc
        simp only [← Int32.toInt_inj, Int32.lt_iff_toInt_lt, Int32.reduceToInt]
        rw [if_neg (by omega), if_neg (by omega), if_neg (by omega), if_neg (by omega), if_pos (by omega)]
        rfl
      · unfold gma
        simp only [Int32.lt_iff_toInt_lt, Int32.reduceToInt]
        rw [if_neg (by omega), if_neg (by omega), if_pos (by omega), e]
        exact pk_sub (b := 16) (by omega)
  · right; right
    refine ⟨no c1, ?_⟩
    have : gmc c = 6 ∨ gmc c = 38 ∨ gmc c = 124 ∨ gmc c = 3 ∨ gmc c = 4 ∨ gmc c = 5 := by
      unfold gmc
      rcases h with h | h | h | h | h
      · rw [if_pos h]; simp
      · rw [if_neg (by rw [h]; decide), if_pos h]; simp
      · rw [if_neg (by rw [h]; decide), if_neg (by rw [h]; decide), if_pos h]; simp
      · exact absurd h c1
      · simp only [← Int32.toInt_inj, Int32.lt_iff_toInt_lt, Int32.reduceToInt]
        rw [if_neg (by omega), if_neg (by omega), if_neg (by omega), if_neg (by omega), if_neg (by omega)]
        by_cases d1 : c.toInt < 200
        · rw [if_pos d1]; simp
        · rw [if_neg d1]
          by_cases d2 : c.toInt < 300
          · rw [if_pos d2]; simp
          · rw [if_neg d2]; simp
    rcases this with h | h | h | h | h | h <;> rw [h] <;> decide

theorem x12_nms_123 {I : gIt} {P : Nat} (hP : P ≤ 16) (h : I 149 3 = nI P) (hp : ∀ o, o < P → iPer1 I o) (t : Int32) {s k : Nat} (hs : s < 10) (hk : k < 8) {e n a : Nat} (hn : e + n ≤ 100) (e163 : I 163 (8 * s + k) = nI (e + n)) (hw : ∀ i, i < e + n → gword (I (19 + 6 * s) i) ∧ I 167 (100 * s + i) = gmc (I (19 + 6 * s) i) ∧ I 168 (100 * s + i) = gma (I (19 + 6 * s) i)) (K8 : Int32 → Int32 → Option Int32) (R : Option Int32) (hK : ∀ m, m < 65536 → (∀ o, o < 16 → (m.testBit o = true ↔ NA I P t s a (e + n) o)) → K8 (nI m) (nI (8 * s + k + 1)) = R) : ∀ (d f j m : Nat), j + d = n → d < f → m < 65536 → (∀ o, o < 16 → (m.testBit o = true ↔ NA I P t s a (e + j) o)) → p_X12_namedSet_123 K8 I (nI s) t (nI (8 * s + k)) f (nI m) (nI (100 * s + (e + j))) = R := by
  intro d
  have e100 : (100 : Int32) * nI s + nI (e + n) = nI (100 * s + (e + n)) := by show nI 100 * nI s + _ = _; rw [pk_mul, nI_add]
  induction d with
  | zero =>
    intro f j m hj hf hm hb
    obtain ⟨f, rfl⟩ : ∃ q, f = q + 1 := ⟨f - 1, by omega⟩
    have : j = n := by omega
    subst this
    unfold p_X12_namedSet_123
    rw [gck_t (gin_nI (by omega) (by omega)), nI_clamp (by omega), e163, e100, if_pos (nI_le (by omega) (by omega)), nI_1]
    exact hK m hm hb
  | succ d ih =>
    intro f j m hj hf hm hb
    obtain ⟨f, rfl⟩ : ∃ q, f = q + 1 := ⟨f - 1, by omega⟩
    obtain ⟨w1, w2, w3⟩ := hw (e + j) (by omega)
    have g : gin (nI (100 * s + (e + j))) 1000 = true := gin_nI (by omega) (by omega)
    unfold p_X12_namedSet_123
    rw [gck_t (gin_nI (by omega) (by omega)), nI_clamp (by omega), e163, e100, if_neg (nI_ge (by omega) (by omega)), gck_t g, nI_clamp (by omega), w2, w3, nI_1]
    simp only [gck_t g, gL_b]
    have nx : nI (100 * s + (e + j) + 1) = nI (100 * s + (e + (j + 1))) := by congr 1
    rw [nx]
    rcases gword_or w1 with ⟨w, hw', ew, q1, q2⟩ | ⟨w, hw', ew, q1, q2⟩ | ⟨q0, q1, q2⟩
    · rw [q1, q2, if_pos rfl, x12_isThere hP h hp t hw']
      by_cases c : thr I P t w = true
      · rw [if_pos c]
        show p_X12_namedSet_123 K8 I (nI s) t (nI (8 * s + k)) f (nI m ||| gshl 1 (nI w)) (nI (100 * s + (e + (j + 1)))) = R
        rw [shl1 (by omega), nI_or]
        refine ih f (j + 1) _ (by omega) (by omega) (or_lt16 hm hw') (fun o ho => ?_)
        rw [show e + (j + 1) = e + j + 1 by omega, NA_b (w := w) (by omega) ew, tb_set, hb o ho]
        unfold wn
        rw [if_pos hw', Bool.and_eq_true, decide_eq_true_eq]
        constructor
        · rintro (z | z)
          · exact Or.inl z
          · rw [z]; exact Or.inr ⟨rfl, c⟩
        · rintro (z | z)
          · exact Or.inl z
          · exact Or.inr z.1
      · rw [if_neg c]
        show p_X12_namedSet_123 K8 I (nI s) t (nI (8 * s + k)) f (nI m) (nI (100 * s + (e + (j + 1)))) = R
        refine ih f (j + 1) _ (by omega) (by omega) hm (fun o ho => ?_)
        rw [show e + (j + 1) = e + j + 1 by omega, NA_b (w := w) (by omega) ew, hb o ho]
        unfold wn
        rw [if_pos hw', Bool.and_eq_true, decide_eq_true_eq]
        constructor
        · exact Or.inl
        · rintro (z | z)
          · exact z
          · rw [z.1] at z; exact absurd z.2 c
    · rw [q1, q2, if_neg (by decide)]
      show gB (p_X12_childrenOf I (nI w) t) (fun r20 => p_X12_namedSet_123 K8 I (nI s) t (nI (8 * s + k)) f (nI m ||| r20) (nI (100 * s + (e + (j + 1))))) = R
      rw [x12_childrenOf hP h hp]
      show p_X12_namedSet_123 K8 I (nI s) t (nI (8 * s + k)) f (nI m ||| _) _ = R
      rw [nI_or]
      refine ih f (j + 1) _ (by omega) (by omega) (or_lt hm (gM_16 _)) (fun o ho => ?_)
      rw [show e + (j + 1) = e + j + 1 by omega, NA_b (w := 16 + w) (by omega) ew, tb_or, hb o ho, gM_tb16 _ ho]
      unfold wn
      rw [if_neg (by omega), show 16 + w - 16 = w by omega]
    · rw [if_neg q1]
      show (if gmc _ = 2 then _ else _) = R
      rw [if_neg q2]
      refine ih f (j + 1) _ (by omega) (by omega) hm (fun o ho => ?_)
      rw [show e + (j + 1) = e + j + 1 by omega, NA_n q0, hb o ho]
theorem x12_nms_30 {I : gIt} {P : Nat} (hP : P ≤ 16) (h : I 149 3 = nI P) (hp : ∀ o, o < P → iPer1 I o) (t : Int32) {s k : Nat} (hs : s < 10) (hk : k < 8) {e n a c : Nat} (hn : e + n ≤ 100) (hc : c ≤ 4) (e161 : I 161 (8 * s + k) = nI c) (e162 : I 162 (8 * s + k) = nI e) (e163 : I 163 (8 * s + k) = nI (e + n)) (hx : ∀ x, x < c → ∃ w, w < 32 ∧ I (17 + 6 * s) (a + x) = nI w ∧ I 164 (4 * (8 * s + k) + x) = (if 16 ≤ w then 1 else 0) ∧ I 165 (4 * (8 * s + k) + x) = nI (w % 16)) (hw : ∀ i, i < e + n → gword (I (19 + 6 * s) i) ∧ I 167 (100 * s + i) = gmc (I (19 + 6 * s) i) ∧ I 168 (100 * s + i) = gma (I (19 + 6 * s) i)) (K8 : Int32 → Int32 → Option Int32) (R : Option Int32) (hK : ∀ m, m < 65536 → (∀ o, o < 16 → (m.testBit o = true ↔ NA I P t s (a + c) (e + n) o)) → K8 (nI m) (nI (8 * s + k + 1)) = R) : ∀ (d f x m : Nat), x + d = c → d < f → m < 65536 → (∀ o, o < 16 → (m.testBit o = true ↔ NA I P t s (a + x) e o)) → p_X12_namedSet_30 K8 I (nI s) t (nI (8 * s + k)) f (nI m) (nI (4 * (8 * s + k) + x)) = R := by
  intro d
  have e4 : (4 : Int32) * nI (8 * s + k) + nI c = nI (4 * (8 * s + k) + c) := by show nI 4 * _ + _ = _; rw [pk_mul, nI_add]
  have e100 : (100 : Int32) * nI s + nI e = nI (100 * s + e) := by show nI 100 * nI s + _ = _; rw [pk_mul, nI_add]
  have o0 : ∀ m, nI m ||| (0 : Int32) = nI m := fun m => by show _ ||| nI 0 = _; rw [nI_or, Nat.or_zero]
  induction d with
  | zero =>
    intro f x m hx' hf hm hb
    obtain ⟨f, rfl⟩ : ∃ q, f = q + 1 := ⟨f - 1, by omega⟩
    have : x = c := by omega
    subst this
    unfold p_X12_namedSet_30
    rw [gck_t (gin_nI (by omega) (by omega)), nI_clamp (by omega), e161, e4, if_pos (nI_le (by omega) (by omega)), gck_t (gin_nI (by omega) (by omega)), e162, e100, gL_b]
    exact x12_nms_123 hP h hp t hs hk hn e163 hw K8 R hK n gFu 0 m (by omega) (by unfold gFu; omega) hm hb
  | succ d ih =>
    intro f x m hx' hf hm hb
    obtain ⟨f, rfl⟩ : ∃ q, f = q + 1 := ⟨f - 1, by omega⟩
    obtain ⟨w, w1, w2, w3, w4⟩ := hx x (by omega)
    have g : gin (nI (4 * (8 * s + k) + x)) 320 = true := gin_nI (by omega) (by omega)
    unfold p_X12_namedSet_30
    rw [gck_t (gin_nI (by omega) (by omega)), nI_clamp (by omega), e161, e4, if_neg (nI_ge (by omega) (by omega)), gck_t g, nI_clamp (by omega), w3, w4, nI_1]
    simp only [gck_t g, gL_b, o0]
    have nx : nI (4 * (8 * s + k) + x + 1) = nI (4 * (8 * s + k) + (x + 1)) := rfl
    rw [nx]
    by_cases c1 : 16 ≤ w
    · rw [if_pos c1, if_neg (by decide), x12_childrenOf hP h hp]
      show p_X12_namedSet_30 K8 I (nI s) t (nI (8 * s + k)) f (nI m ||| _) _ = R
      rw [nI_or]
      refine ih f (x + 1) _ (by omega) (by omega) (or_lt hm (gM_16 _)) (fun o ho => ?_)
      rw [show a + (x + 1) = a + x + 1 by omega, NA_a (w := w) w1 w2, tb_or, hb o ho, gM_tb16 _ ho]
      unfold wn
      rw [if_neg (by omega), show w % 16 = w - 16 by omega]
    · rw [if_neg c1, if_pos rfl, show w % 16 = w by omega, x12_isThere hP h hp t (by omega)]
      by_cases c2 : thr I P t w = true
      · rw [if_pos c2]
        show p_X12_namedSet_30 K8 I (nI s) t (nI (8 * s + k)) f (nI m ||| gshl 1 (nI w)) _ = R
        rw [shl1 (by omega), nI_or]
        refine ih f (x + 1) _ (by omega) (by omega) (or_lt16 hm (by omega)) (fun o ho => ?_)
        rw [show a + (x + 1) = a + x + 1 by omega, NA_a (w := w) w1 w2, tb_set, hb o ho]
        unfold wn
        rw [if_pos (by omega), Bool.and_eq_true, decide_eq_true_eq]
        constructor
        · rintro (z | z)
          · exact Or.inl z
          · rw [z]; exact Or.inr ⟨rfl, c2⟩
        · rintro (z | z)
          · exact Or.inl z
          · exact Or.inr z.1
      · rw [if_neg c2]
        show p_X12_namedSet_30 K8 I (nI s) t (nI (8 * s + k)) f (nI m) _ = R
        refine ih f (x + 1) _ (by omega) (by omega) hm (fun o ho => ?_)
        rw [show a + (x + 1) = a + x + 1 by omega, NA_a (w := w) w1 w2, hb o ho]
        unfold wn
        rw [if_pos (by omega), Bool.and_eq_true, decide_eq_true_eq]
        constructor
        · exact Or.inl
        · rintro (z | z)
          · exact z
          · rw [z.1] at z; exact absurd z.2 c2
theorem gEnd_s (f : Nat → Int32) (k : Nat) {n : Nat} (hn : n < 2 ^ 31) (h : f k = nI n) : gEnd f (k + 1) = n := by
  unfold gEnd
  rw [if_neg (by omega), show k + 1 - 1 = k by omega, h, nI_clamp hn]
theorem gEnd_le {f : Nat → Int32} {C : Nat} (h : ∀ k, k < C → ∃ n, f k = nI (gEnd f k + n) ∧ gEnd f k + n < 2 ^ 31) : ∀ k, k ≤ C → gEnd f k ≤ gEnd f C := by
  intro k hk
  have : ∀ d, ∀ k, k + d = C → gEnd f k ≤ gEnd f C := by
    intro d
    induction d with
    | zero => intro k hk; rw [show k = C by omega]; exact Nat.le_refl _
    | succ d ih =>
      intro k hk
      obtain ⟨n, e, hn⟩ := h k (by omega)
      have := ih (k + 1) (by omega)
      rw [gEnd_s f k hn e] at this
      omega
  exact this (C - k) k (by omega)
theorem x12_nms_8 {I : gIt} {P : Nat} (hP : P ≤ 16) (h : I 149 3 = nI P) (hp : ∀ o, o < P → iPer1 I o) (t : Int32) {s : Nat} (hs : s < 10) (hset : iSet1 I P s) {C : Nat} (hC : C ≤ 8) (eC : I 160 s = nI C) : ∀ (d f k m : Nat), k + d = C → d < f → m < 65536 → (∀ o, o < 16 → (m.testBit o = true ↔ NA I P t s (gEnd (I (15 + 6 * s)) k) (gEnd (I (16 + 6 * s)) k) o)) → p_X12_namedSet_8 I (nI s) t f (nI m) (nI (8 * s + k)) = some (nI (nmS I P t s)) := by
  intro d
  obtain ⟨-, ⟨e158, T, hT, eT⟩, -, C', -, hC', -, eC', hcl, hwd, hlt, hst⟩ := id hset
  have : C' = C := by rw [eC] at eC'; rw [nI_eq (by omega) (by omega)] at eC'; omega
  subst this
  have e8 : (8 : Int32) * nI s + nI C' = nI (8 * s + C') := by show nI 8 * _ + _ = _; rw [pk_mul, nI_add]
  have mono : ∀ k, k ≤ C' → gEnd (I (16 + 6 * s)) k ≤ gEnd (I (16 + 6 * s)) C' := gEnd_le (fun k hk => by
    obtain ⟨-, n, -, -, z3, z4, -⟩ := hcl k hk
    exact ⟨n, z3, by omega⟩)
  induction d with
  | zero =>
    intro f k m hk hf hm hb
    obtain ⟨f, rfl⟩ : ∃ q, f = q + 1 := ⟨f - 1, by omega⟩
    have : k = C' := by omega
    subst this
    unfold p_X12_namedSet_8
    rw [gck_t (gin_nI (by omega) (by omega)), nI_clamp (by omega), eC, e8, if_pos (nI_le (by omega) (by omega)), gck_t (gin_nI (by omega) (by omega)), e158, eT, shl1 (by omega), nI_not _ _ (by omega)]
    congr 2
    apply tb_ext (n := 16) (lt_and hm) (gM_16 _)
    intro o ho
    rw [Bool.eq_iff_iff, tb_notT ho, hb o ho]
    rw [gM_tb16 _ ho, NMb_iff, eT, nI_eq (by omega) (by omega), hlt o ho]
    have fin : NA I P t s (gEnd (I (15 + 6 * s)) k) (gEnd (I (16 + 6 * s)) k) o ↔ ((((∃ x, x < gEnd (I (15 + 6 * s)) k ∧ I (17 + 6 * s) x = nI o) ∨ ∃ i, i < gEnd (I (16 + 6 * s)) k ∧ I (19 + 6 * s) i = nI o) ∧ thr I P t o = true) ∨ ∃ q, q < 16 ∧ gushr (I (14 + 6 * s) 12) (nI q) &&& 1 = 1 ∧ chd I P t q o = true) := by
      unfold NA
      constructor
      · rintro (⟨y, hy, w, hw, e, z⟩ | ⟨y, hy, w, hw, e, z⟩)
        · unfold wn at z
          by_cases c : w < 16
          · rw [if_pos c, Bool.and_eq_true, decide_eq_true_eq] at z
            rw [← z.1] at e
            exact Or.inl ⟨Or.inl ⟨y, hy, e⟩, z.2⟩
          · rw [if_neg c] at z
            exact Or.inr ⟨w - 16, by omega, (hst (w - 16) (by omega)).mpr (Or.inl ⟨y, hy, by rw [e]; congr 1; omega⟩), z⟩
        · unfold wn at z
          by_cases c : w < 16
          · rw [if_pos c, Bool.and_eq_true, decide_eq_true_eq] at z
            rw [← z.1] at e
            exact Or.inl ⟨Or.inr ⟨y, hy, e⟩, z.2⟩
          · rw [if_neg c] at z
            exact Or.inr ⟨w - 16, by omega, (hst (w - 16) (by omega)).mpr (Or.inr ⟨y, hy, by rw [e]; congr 1; omega⟩), z⟩
      · rintro (⟨⟨y, hy, e⟩ | ⟨y, hy, e⟩, z⟩ | ⟨q, hq, z1, z2⟩)
        · exact Or.inl ⟨y, hy, o, by omega, e, by unfold wn; rw [if_pos ho]; simp [z]⟩
        · exact Or.inr ⟨y, hy, o, by omega, e, by unfold wn; rw [if_pos ho]; simp [z]⟩
        · rcases (hst q hq).mp z1 with ⟨y, hy, e⟩ | ⟨y, hy, e⟩
          · exact Or.inl ⟨y, hy, 16 + q, by omega, e, by unfold wn; rw [if_neg (by omega), show 16 + q - 16 = q by omega]; exact z2⟩
          · exact Or.inr ⟨y, hy, 16 + q, by omega, e, by unfold wn; rw [if_neg (by omega), show 16 + q - 16 = q by omega]; exact z2⟩
    rw [fin]
    constructor
    · rintro ⟨h1, h2⟩; exact ⟨fun q => h2 q.symm, h1⟩
    · rintro ⟨h1, h2⟩; exact ⟨h2, fun q => h1 q.symm⟩
  | succ d ih =>
    intro f k m hk hf hm hb
    obtain ⟨f, rfl⟩ : ∃ q, f = q + 1 := ⟨f - 1, by omega⟩
    obtain ⟨⟨c, c1, c2, c3, c4, c5, c6⟩, n, n1, n2, n3, n4, -⟩ := hcl k (by omega)
    have me := mono (k + 1) (by omega)
    rw [gEnd_s _ k (by omega) n3] at me
    have e4 : (4 : Int32) * nI (8 * s + k) = nI (4 * (8 * s + k)) := by show nI 4 * _ = _; rw [pk_mul]
    unfold p_X12_namedSet_8
    rw [gck_t (gin_nI (by omega) (by omega)), nI_clamp (by omega), eC, e8, if_neg (nI_ge (by omega) (by omega)), gL_b, e4]
    refine x12_nms_30 hP h hp t hs (by omega) (e := gEnd (I (16 + 6 * s)) k) (n := n) (a := gEnd (I (15 + 6 * s)) k) (c := c) n4 c2 c3 n1 n2 (fun x hx => ?_) (fun i hi => hwd i (by omega)) _ _ (fun m' hm' hb' => ?_) c gFu 0 m (by omega) (by unfold gFu; omega) hm hb
    · obtain ⟨w, w1, w2, w3, w4, -⟩ := c6 x hx
      exact ⟨w, w1, w2, w3, w4⟩
    · refine ih f (k + 1) m' (by omega) (by omega) hm' (fun o ho => ?_)
      rw [gEnd_s _ k (by omega) n3, gEnd_s _ k (by omega) c4]
      exact hb' o ho
theorem x12_namedSet {I : gIt} {P : Nat} (hP : P ≤ 16) (h : I 149 3 = nI P) (hp : ∀ o, o < P → iPer1 I o) (t : Int32) {s : Nat} (hs : s < 10) (hset : iSet1 I P s) : p_X12_namedSet I (nI s) t = some (nI (nmS I P t s)) := by
  obtain ⟨-, -, -, C, -, hC, -, eC, -⟩ := id hset
  have e8 : (8 : Int32) * nI s = nI (8 * s + 0) := by show nI 8 * _ = _; rw [pk_mul, Nat.add_zero]
  rw [p_X12_namedSet, gL_b, e8]
  refine x12_nms_8 hP h hp t hs hset hC eC C gFu 0 0 (by omega) (by unfold gFu; omega) (by omega) (fun o ho => ?_)
  rw [Nat.zero_testBit]
  unfold NA gEnd
  constructor
  · intro q; exact absurd q (by decide)
  · rintro (⟨y, hy, -⟩ | ⟨y, hy, -⟩)
    · rw [if_pos rfl] at hy; omega
    · rw [if_pos rfl] at hy; omega
