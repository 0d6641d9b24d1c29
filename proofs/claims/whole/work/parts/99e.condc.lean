/-! ===== the class reads a settlement's conditions ===== -/
def sFr (a : Nat) (r0 r : gIt) : Prop := (∀ x, x ≠ 11 → x ≠ a → x ≠ a + 3 → x ≠ a + 4 → x ≠ a + 5 → r x = r0 x) ∧ (∀ j, j ≠ 3 → j ≠ 4 → r 11 j = r0 11 j) ∧ ∀ j, (j < 9 ∨ 12 < j) → r a j = r0 a j
def mkS (m : Int32) (B : Nat) (K W E : List Int32) : Prop := ∀ o, o < 16 → (gushr m (nI o) &&& 1 = 1 ↔ nI (B + o) ∈ K ∨ nI (B + o) ∈ W ∨ nI (B + o) ∈ E)
def sCS (a : Nat) (r0 : gIt) (i : Nat) (K G W E : List Int32) (r : gIt) : Prop := r 11 3 = nI i ∧ (r a 10 = nI W.length ∧ ∀ k, k < W.length → r (a + 5) k = gtW W k) ∧ (r a 9 = nI K.length ∧ ∀ k, k < K.length → r (a + 3) k = gtW K k) ∧ (K.length = G.length ∧ ∀ k, k < G.length → r (a + 4) k = gtW G k) ∧ mkS (r a 11) 0 K W E ∧ mkS (r a 12) 16 K W E ∧ r 11 4 = r0 11 4 ∧ sFr a r0 r
def sSt (b : Nat → Int32) (n T a : Nat) (r0 : gIt) : Prop := (∃ s, s < 10 ∧ a = 14 + 6 * s) ∧ n ≤ 100 ∧ r0 11 2 = nI n ∧ (∀ j, j < n → r0 12 j = b j ∧ 0 ≤ (b j).toInt ∧ (b j).toInt ≤ 255) ∧ r0 a 6 = nI T ∧ T < 16
def sFl (a : Nat) (r0 : gIt) (k p : Nat) (r : gIt) : Prop := r 11 4 = -1000 * nI k - nI p ∧ sFr a r0 r
def sOut (a : Nat) (r0 : gIt) (K G W : List Int32) (o : gOut) (res : Option (Int32 × gIt)) : Prop := (∀ k p, o = .inl (k, p) → ∃ r', res = some (0, r') ∧ sFl a r0 k p r') ∧ ∀ j ws, o = .inr (j, ws) → ∃ r', res = some (1, r') ∧ sCS a r0 j K G (W ++ ws) [] r'
theorem mk_set {m : Int32} {B o : Nat} {K W : List Int32} (h : mkS m B K W []) (ho : o < 16) (hB : B ≤ 16) : mkS (m ||| gshl 1 (nI o)) B K W [nI (B + o)] := by
  intro o' ho'
  have ho3 := h o' ho'
  obtain ⟨z, hz, rfl⟩ := nI_all m
  rw [shl1 (by omega), nI_or, ush1_1 (Nat.or_lt_two_pow hz (Nat.pow_lt_pow_right (by omega) (by omega))) (by omega), tb_set, ← ush1_1 hz (by omega), ho3, List.mem_singleton, nI_eq (by omega) (by omega)]
  constructor
  · rintro ((q | q | q) | q)
    · exact Or.inl q
    · exact Or.inr (Or.inl q)
    · exact absurd q (by simp)
    · exact Or.inr (Or.inr (by omega))
  · rintro (q | q | q)
    · exact Or.inl (Or.inl q)
    · exact Or.inl (Or.inr (Or.inl q))
    · exact Or.inr (by omega)
theorem mk_keep {m : Int32} {B B' o : Nat} {K W : List Int32} (h : mkS m B' K W []) (ho : o < 16) (hB : (B = 0 ∧ B' = 16) ∨ (B = 16 ∧ B' = 0)) : mkS m B' K W [nI (B + o)] := by
  intro o' ho'
  have : ¬ nI (B' + o') ∈ [nI (B + o)] := fun q => by
    rw [List.mem_singleton, nI_eq (by omega) (by omega)] at q
    omega
  rw [h o' ho']
  simp only [this, or_false, List.not_mem_nil]
theorem mk_mv {m : Int32} {B : Nat} {K W E : List Int32} {w : Int32} (h : mkS m B K W E) (hB : B ≤ 16) (hE : ∀ o, o < 32 → (nI o ∈ E ↔ nI o = w)) : mkS m B K (W ++ [w]) [] := by
  intro o ho
  rw [h o ho, hE (B + o) (by omega), List.mem_append, List.mem_singleton]
  simp only [or_false, List.not_mem_nil]
theorem mk_mvK {m : Int32} {B : Nat} {K W E : List Int32} {w : Int32} (h : mkS m B K W E) (hB : B ≤ 16) (hE : ∀ o, o < 32 → (nI o ∈ E ↔ nI o = w)) : mkS m B (K ++ [w]) W [] := by
  intro o ho
  rw [h o ho, hE (B + o) (by omega), List.mem_append, List.mem_singleton]
  simp only [or_false, List.not_mem_nil]
  constructor
  · rintro (q | q | q)
    · exact Or.inl (Or.inl q)
    · exact Or.inr q
    · exact Or.inl (Or.inr q)
  · rintro ((q | q) | q)
    · exact Or.inl q
    · exact Or.inr (Or.inr q)
    · exact Or.inr (Or.inl q)
theorem sO_l {a : Nat} {r0 : gIt} {K G W : List Int32} {k p : Nat} {res : Option (Int32 × gIt)} (h : ∃ r', res = some (0, r') ∧ sFl a r0 k p r') : sOut a r0 K G W (.inl (k, p)) res := ⟨fun k' p' e => by
  rw [Sum.inl.injEq, Prod.mk.injEq] at e
  rw [← e.1, ← e.2]
  exact h, fun j ws e => by exact absurd e (by simp)⟩
theorem sO_r {a : Nat} {r0 : gIt} {K G W : List Int32} {j : Nat} {ws : List Int32} {res : Option (Int32 × gIt)} (h : ∃ r', res = some (1, r') ∧ sCS a r0 j K G (W ++ ws) [] r') : sOut a r0 K G W (.inr (j, ws)) res := ⟨fun k p e => by exact absurd e (by simp), fun j' ws' e => by
  rw [Sum.inr.injEq, Prod.mk.injEq] at e
  rw [← e.1, ← e.2]
  exact h⟩
theorem nI_nm {v : Nat} (h : v < 2 ^ 31) : ¬ nI v = (-1 : Int32) := fun q => by
  have : (nI v).toInt = -1 := by rw [q]; decide
  rw [nI_toInt h] at this
  omega
section Sc
variable {b : Nat → Int32} {n T a : Nat} {r0 : gIt}
theorem s_ne (s : sSt b n T a r0) : a ≠ 11 ∧ a ≠ 12 ∧ a + 3 ≠ 11 ∧ a + 3 ≠ 12 ∧ a + 4 ≠ 11 ∧ a + 4 ≠ 12 ∧ a + 5 ≠ 11 ∧ a + 5 ≠ 12 := by obtain ⟨⟨z, hz, e⟩, -⟩ := s; omega
theorem s_peek (s : sSt b n T a r0) {i : Nat} {K G W E : List Int32} {r : gIt} (h : sCS a r0 i K G W E r) (hi : i ≤ n) : p_X10_peek r = some (pkB b n i) := by
  obtain ⟨h1, -, -, -, -, -, -, f1, f2, -⟩ := h
  obtain ⟨n1, n2, n3, n4, n5, n6, n7, n8⟩ := s_ne s
  obtain ⟨-, hn, e2, hb, -⟩ := s
  unfold p_X10_peek pkB
  rw [h1, f2 2 (by decide) (by decide), e2, if_neg (nI_pos (by omega))]
  by_cases c : i < n
  · rw [if_neg (nI_ge c (by omega)), if_neg (show ¬ (100 : Int32) ≤ nI i from nI_ge (b := 100) (by omega) (by omega)), gck_t (gin_nI (by omega) (by omega)), nI_clamp (by omega), f1 12 (by decide) (Ne.symm n2) (Ne.symm n4) (Ne.symm n6) (Ne.symm n8), (hb i c).1, if_pos c]
  · rw [if_pos (nI_le (by omega) (by omega)), if_neg c]
theorem s_rng (s : sSt b n T a r0) (i : Nat) : pkB b n i = -1 ∨ ∃ z, z ≤ 255 ∧ pkB b n i = nI z ∧ (pkB b n i).toInt = z := by
  obtain ⟨-, hn, e2, hb, -⟩ := s
  unfold pkB
  by_cases c : i < n
  · rw [if_pos c]
    obtain ⟨z, -, ez, tz⟩ := i_of (hb i c).2.1
    have := (hb i c).2.2
    exact Or.inr ⟨z, by omega, ez, tz⟩
  · rw [if_neg c]; exact Or.inl rfl
theorem s_3 (s : sSt b n T a r0) {i : Nat} {K G W E : List Int32} {r : gIt} (h : sCS a r0 i K G W E r) (j : Nat) : sCS a r0 j K G W E (gu2 r 11 3 (nI j)) := by
  obtain ⟨n1, n2, n3, n4, n5, n6, n7, n8⟩ := s_ne s
  obtain ⟨h1, h2, h3, h4, h5, h6, h7, f1, f2, f3⟩ := h
  exact ⟨by rw [gu_sl, if_pos rfl], by rw [gu_rd n1, gu2_ne n7]; exact h2, by rw [gu_rd n1, gu2_ne n3]; exact h3, by rw [gu2_ne n5]; exact h4, by rw [gu_rd n1]; exact h5, by rw [gu_rd n1]; exact h6, by rw [gu_sl, if_neg (by decide)]; exact h7, fun x q1 q2 q3 q4 q5 => by rw [gu2_ne q1]; exact f1 x q1 q2 q3 q4 q5, fun j q1 q2 => by rw [gu_sl, if_neg q1]; exact f2 j q1 q2, fun j q => by rw [gu_rd n1]; exact f3 j q⟩
theorem s_take (s : sSt b n T a r0) {i : Nat} {K G W E : List Int32} {r : gIt} (h : sCS a r0 i K G W E r) (hi : i ≤ n) (c : Int32) : (pkB b n i = c ∧ ∃ r', p_X10_take r c = some (1, r') ∧ sCS a r0 (i + 1) K G W E r') ∨ (¬ pkB b n i = c ∧ p_X10_take r c = some (0, r)) := by
  unfold p_X10_take
  rw [s_peek s h hi, gB_v]
  by_cases q : pkB b n i = c
  · rw [if_pos q, h.1, nI_1, gL_b, gL_b]
    exact Or.inl ⟨q, _, rfl, s_3 s h (i + 1)⟩
  · rw [if_neg q]
    exact Or.inr ⟨q, rfl⟩
theorem s_refuse (s : sSt b n T a r0) {i : Nat} {K G W E : List Int32} {r : gIt} (h : sCS a r0 i K G W E r) (k : Nat) : ∃ r', p_X10_refuse r (nI k) = some (0, r') ∧ sFl a r0 k i r' := by
  obtain ⟨n1, n2, n3, n4, n5, n6, n7, n8⟩ := s_ne s
  obtain ⟨h1, h2, h3, h4, h5, h6, h7, f1, f2, f3⟩ := h
  unfold p_X10_refuse
  rw [h1, gL_b, gL_b]
  exact ⟨_, rfl, by rw [gu_sl, if_pos rfl], fun x q1 q2 q3 q4 q5 => by rw [gu2_ne q1]; exact f1 x q1 q2 q3 q4 q5, fun j q1 q2 => by rw [gu_sl, if_neg q2]; exact f2 j q1 q2, fun j q => by rw [gu_rd n1]; exact f3 j q⟩
theorem s_emit (s : sSt b n T a r0) {i : Nat} {K G W E : List Int32} {r : gIt} (h : sCS a r0 i K G W E r) (hW : W.length < 100) (w : Int32) (hE : ∀ o, o < 32 → (nI o ∈ E ↔ nI o = w)) : ∃ r', p_X9_emit r a w = some r' ∧ sCS a r0 i K G (W ++ [w]) [] r' := by
  obtain ⟨n1, n2, n3, n4, n5, n6, n7, n8⟩ := s_ne s
  obtain ⟨h1, ⟨h2, h2'⟩, ⟨h3, h3'⟩, ⟨h4, h4'⟩, h5, h6, h7, f1, f2, f3⟩ := h
  unfold p_X9_emit
  have e5 : a + 5 ≠ a := by omega
  rw [h2, if_neg (nI_pos (by omega)), if_neg (nI_ge (by omega) (by omega)), gck_t (gin_nI (by omega) (by omega)), gL_b, gu_rd (Ne.symm e5), h2, nI_1, gL_b, gL_b, nI_clamp (by omega)]
  have ra : ∀ j, j ≠ 10 → gu2 (gu2 r (a + 5) W.length w) a 10 (nI (W.length + 1)) a j = r a j := fun j hj => by rw [gu_sl, if_neg hj, gu_rd (Ne.symm e5)]
  have r11 : ∀ j, gu2 (gu2 r (a + 5) W.length w) a 10 (nI (W.length + 1)) 11 j = r 11 j := fun j => by rw [gu_rd (Ne.symm n1), gu_rd (Ne.symm n7)]
  refine ⟨_, rfl, by rw [r11]; exact h1, ⟨by rw [gu_sl, if_pos rfl, List.length_append]; rfl, fun k hk => ?_⟩, ⟨by rw [ra 9 (by decide)]; exact h3, fun k hk => by rw [gu_rd (by omega), gu_rd (by omega)]; exact h3' k hk⟩, ⟨h4, fun k hk => by rw [gu_rd (by omega), gu_rd (by omega)]; exact h4' k hk⟩, by rw [ra 11 (by decide)]; exact mk_mv h5 (by omega) hE, by rw [ra 12 (by decide)]; exact mk_mv h6 (by omega) hE, by rw [r11]; exact h7, fun x q1 q2 q3 q4 q5 => by rw [gu2_ne q2, gu2_ne q5]; exact f1 x q1 q2 q3 q4 q5, fun j q1 q2 => by rw [r11]; exact f2 j q1 q2, fun j q => by rw [ra j (by omega)]; exact f3 j q⟩
  rw [List.length_append] at hk
  have hk1 : k < W.length + 1 := hk
  rw [gu_rd e5, gu_sl]
  by_cases e : k = W.length
  · rw [if_pos e, e, gtW_r]
  · rw [if_neg e, gtW_l (by omega)]; exact h2' k (by omega)
theorem s_letter (s : sSt b n T a r0) {i : Nat} {K G W E : List Int32} {r : gIt} (h : sCS a r0 i K G W E r) (hi : i ≤ n) : p_X10_letter r = some (if isLt (pkB b n i) then nI (ltO (pkB b n i)) else -1) := by
  unfold p_X10_letter
  rw [s_peek s h hi, gB_v, gL_b]
  rcases s_rng s i with q | ⟨z, hz, ez, tz⟩
  · rw [q]; decide
  · unfold isLt ltO
    rw [ez, nI_clamp (by omega), nI_toInt (by omega)]
    have e : (nI z - 97 : Int32).toInt = (z : Int) - 97 := pk_sub_toInt (b := 97) (by omega) (by omega)
    simp only [Int32.lt_iff_toInt_lt, Int32.le_iff_toInt_le, Int32.reduceToInt, e]
    by_cases c1 : (z : Int) - 97 < 0
    · rw [if_pos c1, decide_eq_false (by omega)]; rfl
    · rw [if_neg c1]
      by_cases c2 : (16 : Int) ≤ (z : Int) - 97
      · rw [if_pos c2, decide_eq_false (by omega)]; rfl
      · rw [if_neg c2, decide_eq_true (by omega), if_pos rfl, show nI z - (97 : Int32) = nI (z - 97) from pk_sub (b := 97) (by omega)]
theorem s_digit (s : sSt b n T a r0) {i : Nat} {K G W E : List Int32} {r : gIt} (h : sCS a r0 i K G W E r) (hi : i ≤ n) (lo : Nat) (hlo : lo ≤ 9) : ((48 + (lo : Int) ≤ (pkB b n i).toInt ∧ (pkB b n i).toInt ≤ 57) ∧ ∃ r', p_X10_takeDigit r (nI lo) = some (nI ((pkB b n i).toNatClampNeg - 48), r') ∧ sCS a r0 (i + 1) K G W E r') ∨ (¬ (48 + (lo : Int) ≤ (pkB b n i).toInt ∧ (pkB b n i).toInt ≤ 57) ∧ p_X10_takeDigit r (nI lo) = some (-1, r)) := by
  unfold p_X10_takeDigit
  rw [s_peek s h hi, gB_v, gL_b]
  have el : (nI lo).toInt = lo := nI_toInt (by omega)
  rcases s_rng s i with q | ⟨z, hz, ez, tz⟩
  · rw [q]
    refine Or.inr ⟨fun z => ?_, ?_⟩
    · have : (-1 : Int32).toInt = -1 := by decide
      omega
    · have : (-1 - 48 : Int32).toInt = -49 := by decide
      rw [if_pos (by rw [Int32.lt_iff_toInt_lt]; omega)]
  · rw [ez, nI_clamp (by omega), nI_toInt (by omega)]
    have e : (nI z - 48 : Int32).toInt = (z : Int) - 48 := pk_sub_toInt (b := 48) (by omega) (by omega)
    by_cases c1 : (z : Int) - 48 < lo
    · rw [if_pos (by rw [Int32.lt_iff_toInt_lt]; omega)]
      exact Or.inr ⟨by omega, rfl⟩
    · rw [if_neg (by rw [Int32.lt_iff_toInt_lt]; omega)]
      by_cases c2 : (z : Int) - 48 ≤ 9
      · rw [if_pos (by rw [Int32.le_iff_toInt_le, e]; exact c2), h.1, nI_1, gL_b, gL_b, show nI z - (48 : Int32) = nI (z - 48) from pk_sub (b := 48) (by omega)]
        exact Or.inl ⟨by omega, _, rfl, s_3 s h (i + 1)⟩
      · rw [if_neg (by rw [Int32.le_iff_toInt_le, e]; exact c2)]
        exact Or.inr ⟨by omega, rfl⟩
theorem s_name (s : sSt b n T a r0) {i : Nat} {K G W : List Int32} {r : gIt} (h : sCS a r0 i K G W [] r) {o : Nat} (ho : o < 16) : sCS a r0 i K G W [nI o] (gu2 r a 11 (r a 11 ||| gshl 1 (nI o))) ∧ sCS a r0 i K G W [nI (16 + o)] (gu2 r a 12 (r a 12 ||| gshl 1 (nI o))) := by
  obtain ⟨n1, n2, n3, n4, n5, n6, n7, n8⟩ := s_ne s
  obtain ⟨h1, ⟨h2, h2'⟩, ⟨h3, h3'⟩, ⟨h4, h4'⟩, h5, h6, h7, f1, f2, f3⟩ := h
  refine ⟨⟨by rw [gu_rd (Ne.symm n1)]; exact h1, ⟨by rw [gu_sl, if_neg (by decide)]; exact h2, fun k hk => by rw [gu_rd (by omega)]; exact h2' k hk⟩, ⟨by rw [gu_sl, if_neg (by decide)]; exact h3, fun k hk => by rw [gu_rd (by omega)]; exact h3' k hk⟩, ⟨h4, fun k hk => by rw [gu_rd (by omega)]; exact h4' k hk⟩, ?_, ?_, by rw [gu_rd (Ne.symm n1)]; exact h7, fun x q1 q2 q3 q4 q5 => by rw [gu2_ne q2]; exact f1 x q1 q2 q3 q4 q5, fun j q1 q2 => by rw [gu_rd (Ne.symm n1)]; exact f2 j q1 q2, fun j q => by rw [gu_sl, if_neg (by omega)]; exact f3 j q⟩, ⟨by rw [gu_rd (Ne.symm n1)]; exact h1, ⟨by rw [gu_sl, if_neg (by decide)]; exact h2, fun k hk => by rw [gu_rd (by omega)]; exact h2' k hk⟩, ⟨by rw [gu_sl, if_neg (by decide)]; exact h3, fun k hk => by rw [gu_rd (by omega)]; exact h3' k hk⟩, ⟨h4, fun k hk => by rw [gu_rd (by omega)]; exact h4' k hk⟩, ?_, ?_, by rw [gu_rd (Ne.symm n1)]; exact h7, fun x q1 q2 q3 q4 q5 => by rw [gu2_ne q2]; exact f1 x q1 q2 q3 q4 q5, fun j q1 q2 => by rw [gu_rd (Ne.symm n1)]; exact f2 j q1 q2, fun j q => by rw [gu_sl, if_neg (by omega)]; exact f3 j q⟩⟩
  · rw [gu_sl, if_pos rfl]
    have := mk_set h5 ho (by omega)
    rw [Nat.zero_add] at this
    exact this
  · rw [gu_sl, if_neg (by decide)]
    have := mk_keep (B := 0) h6 ho (Or.inl ⟨rfl, rfl⟩)
    rw [Nat.zero_add] at this
    exact this
  · rw [gu_sl, if_neg (by decide)]
    exact mk_keep (B := 16) h5 ho (Or.inr ⟨rfl, rfl⟩)
  · rw [gu_sl, if_pos rfl]
    exact mk_set h6 ho (by omega)
theorem x9_who (s : sSt b n T a r0) {i : Nat} {K G W : List Int32} {r : gIt} (h : sCS a r0 i K G W [] r) (hi : i ≤ n) : (∀ k p, whS b n T i = .inl (k, p) → ∃ r', p_X9_readWho r a = some (-1, r') ∧ sFl a r0 k p r') ∧ ∀ j ws, whS b n T i = .inr (j, ws) → ∃ o r', o < 32 ∧ ws = [nI o] ∧ p_X9_readWho r a = some (nI o, r') ∧ sCS a r0 j K G W [nI o] r' := by
  have h6 : ∀ {i K G W E r}, sCS a r0 i K G W E r → r a 6 = nI T := fun h => by rw [h.2.2.2.2.2.2.2.2.2 6 (by omega)]; exact s.2.2.2.2.1
  have hT := s.2.2.2.2.2
  have hn := s.2.1
  unfold p_X9_readWho whS
  rcases s_take s h hi 42 with ⟨q, r1, e1, c1⟩ | ⟨q, e1⟩
  · have hlt := pkB_lt (b := b) (n := n) (i := i) (by rw [q]; decide)
    rw [if_pos q, e1, gB_v]
    dsimp only
    rw [s_letter s c1 (by omega), gB_v]
    by_cases c : isLt (pkB b n (i + 1)) = true
    · obtain ⟨z1, z2, -⟩ := isLt_lt c
      rw [if_pos c, if_pos c, if_neg (nI_nm (by omega)), if_neg n10, c1.1, nI_1, gL_b, gL_b, if_neg n10, gL_b, gL_b]
      refine ⟨fun k p e => by exact absurd e (by simp), fun j ws e => ?_⟩
      rw [Sum.inr.injEq, Prod.mk.injEq] at e
      rw [← e.1, ← e.2]
      exact ⟨16 + ltO (pkB b n (i + 1)), _, by omega, rfl, by rw [show (16 : Int32) + nI (ltO (pkB b n (i + 1))) = nI (16 + ltO (pkB b n (i + 1))) from nI_add 16 _], (s_name s (s_3 s c1 (i + 2)) z2).2⟩
    · rw [if_neg c, if_neg c, if_pos rfl]
      obtain ⟨r2, e2, f2⟩ := s_refuse s c1 1
      rw [show p_X10_refuse r1 1 = _ from e2, gB_v]
      refine ⟨fun k p e => ?_, fun j ws e => by exact absurd e (by simp)⟩
      rw [Sum.inl.injEq, Prod.mk.injEq] at e
      rw [← e.1, ← e.2]
      exact ⟨r2, rfl, f2⟩
  · rw [if_neg q, e1, gB_v]
    dsimp only
    rw [s_letter s h hi, gB_v]
    by_cases c : isLt (pkB b n i) = true
    · obtain ⟨z1, z2, -⟩ := isLt_lt c
      rw [if_pos c, if_pos c, if_neg (nI_nm (by omega)), if_pos p00]
      have h66 := h6 h
      by_cases c2 : ltO (pkB b n i) = T
      · rw [if_pos c2, if_pos (by rw [h66, c2])]
        obtain ⟨r2, e2, f2⟩ := s_refuse s h 2
        rw [show p_X10_refuse r 2 = _ from e2, gB_v]
        refine ⟨fun k p e => ?_, fun j ws e => by exact absurd e (by simp)⟩
        rw [Sum.inl.injEq, Prod.mk.injEq] at e
        rw [← e.1, ← e.2]
        exact ⟨r2, rfl, f2⟩
      · rw [if_neg c2, if_neg (fun q => by rw [h66, nI_eq (by omega) (by omega)] at q; exact c2 q), h.1, nI_1, gL_b, gL_b, if_pos p00, gL_b, gL_b]
        refine ⟨fun k p e => by exact absurd e (by simp), fun j ws e => ?_⟩
        rw [Sum.inr.injEq, Prod.mk.injEq] at e
        rw [← e.1, ← e.2]
        exact ⟨ltO (pkB b n i), _, by omega, rfl, rfl, (s_name s (s_3 s h (i + 1)) z2).1⟩
    · rw [if_neg c, if_neg c, if_pos rfl]
      obtain ⟨r2, e2, f2⟩ := s_refuse s h 1
      rw [show p_X10_refuse r 1 = _ from e2, gB_v]
      refine ⟨fun k p e => ?_, fun j ws e => by exact absurd e (by simp)⟩
      rw [Sum.inl.injEq, Prod.mk.injEq] at e
      rw [← e.1, ← e.2]
      exact ⟨r2, rfl, f2⟩
theorem nm_no {w : Int32} (h : ∀ o, o < 32 → ¬ nI o = w) : ∀ o, o < 32 → (nI o ∈ ([] : List Int32) ↔ nI o = w) := fun o ho => ⟨fun q => absurd q (by simp), fun q => absurd q (h o ho)⟩
theorem x9_many (s : sSt b n T a r0) {i : Nat} {K G W : List Int32} {r : gIt} (h : sCS a r0 i K G W [] r) (hi : i ≤ n) (hW : W.length < i) : sOut a r0 K G W (hmS b n i) (p_X9_readHowMany r a) := by
  have hn := s.2.1
  -- the sign
  have sg : (kdS (pkB b n i) = 0 ∧ (gB (p_X10_take r (60 : Int32)) fun r1 => gB (α := (Int32 × gIt)) (if r1.1 = 0 then gB (p_X10_take r1.2 (62 : Int32)) fun r25 => if r25.1 = 0 then gB (p_X10_take r25.2 (61 : Int32)) fun r28 => if r28.1 = 0 then some ((-1 : Int32), r28.2) else some ((300 : Int32), r28.2) else some ((200 : Int32), r25.2) else some ((100 : Int32), r1.2)) fun ph7 => some ph7) = some (-1, r)) ∨ (¬ kdS (pkB b n i) = 0 ∧ i < n ∧ ∃ r', (gB (p_X10_take r (60 : Int32)) fun r1 => gB (α := (Int32 × gIt)) (if r1.1 = 0 then gB (p_X10_take r1.2 (62 : Int32)) fun r25 => if r25.1 = 0 then gB (p_X10_take r25.2 (61 : Int32)) fun r28 => if r28.1 = 0 then some ((-1 : Int32), r28.2) else some ((300 : Int32), r28.2) else some ((200 : Int32), r25.2) else some ((100 : Int32), r1.2)) fun ph7 => some ph7) = some (nI (kdS (pkB b n i)), r') ∧ sCS a r0 (i + 1) K G W [] r') := by
    rcases s_take s h hi 60 with ⟨q, r1, e1, c1⟩ | ⟨q, e1⟩
    · have ek : kdS (pkB b n i) = 100 := by unfold kdS; rw [if_pos q]
      refine Or.inr ⟨by rw [ek]; decide, pkB_lt (by rw [q]; decide), r1, ?_, c1⟩
      rw [e1, gB_v, ek]
      dsimp only
      rw [if_neg n10, gB_v]
      rfl
    · rcases s_take s h hi 62 with ⟨q2, r1, e2, c1⟩ | ⟨q2, e2⟩
      · have ek : kdS (pkB b n i) = 200 := by unfold kdS; rw [if_neg q, if_pos q2]
        refine Or.inr ⟨by rw [ek]; decide, pkB_lt (by rw [q2]; decide), r1, ?_, c1⟩
        rw [e1, gB_v, ek]
        dsimp only
        rw [if_pos p00, e2, gB_v]
        dsimp only
        rw [if_neg n10, gB_v]
        rfl
      · rcases s_take s h hi 61 with ⟨q3, r1, e3, c1⟩ | ⟨q3, e3⟩
        · have ek : kdS (pkB b n i) = 300 := by unfold kdS; rw [if_neg q, if_neg q2, if_pos q3]
          refine Or.inr ⟨by rw [ek]; decide, pkB_lt (by rw [q3]; decide), r1, ?_, c1⟩
          rw [e1, gB_v, ek]
          dsimp only
          rw [if_pos p00, e2, gB_v]
          dsimp only
          rw [if_pos p00, e3, gB_v]
          dsimp only
          rw [if_neg n10, gB_v]
          rfl
        · have ek : kdS (pkB b n i) = 0 := by unfold kdS; rw [if_neg q, if_neg q2, if_neg q3]
          refine Or.inl ⟨ek, ?_⟩
          rw [e1, gB_v]
          dsimp only
          rw [if_pos p00, e2, gB_v]
          dsimp only
          rw [if_pos p00, e3, gB_v]
          dsimp only
          rw [if_pos p00, gB_v]
  have gBB : ∀ (X : Option (Int32 × gIt)) (Y : Int32 × gIt → Option (Int32 × gIt)) (Z : Int32 × gIt → Option (Int32 × gIt)), (gB X fun r5 => gB (Y r5) fun ph => Z ph) = gB (gB X fun r5 => gB (Y r5) fun ph => some ph) Z := fun X Y Z => by
    cases X with
    | none => rfl
    | some v =>
      show gB (Y v) _ = gB (gB (Y v) fun ph => some ph) Z
      cases Y v <;> rfl
  unfold p_X9_readHowMany hmS
  rw [gBB]
  rcases sg with ⟨q, e1⟩ | ⟨q, hlt, r1, e1, c1⟩
  · rw [if_pos q, e1, gB_v]
    dsimp only
    rw [if_pos rfl]
    obtain ⟨r2, e2, f2⟩ := s_refuse s h 1
    rw [show p_X10_refuse r 1 = _ from e2, gB_v]
    exact sO_l ⟨r2, rfl, f2⟩
  · have hk := kdS_r q
    have hk3 : kdS (pkB b n i) ≤ 300 ∧ 100 ≤ kdS (pkB b n i) := by rcases hk with ⟨-, z⟩ | ⟨-, z⟩ | ⟨-, z⟩ <;> omega
    rw [if_neg q, e1, gB_v]
    dsimp only
    rw [if_neg (nI_nm (by omega))]
    have isd : ∀ i, isDg (pkB b n i) = decide (48 + ((0 : Nat) : Int) ≤ (pkB b n i).toInt ∧ (pkB b n i).toInt ≤ 57) := fun i => by
      unfold isDg
      congr 1
    have emN : ∀ v, v < 1000 → 100 ≤ v → ∀ o, o < 32 → ¬ nI o = nI v := fun v hv hv2 o ho z => by
      rw [nI_eq (by omega) (by omega)] at z
      omega
    rcases s_digit s c1 (by omega) 0 (by omega) with ⟨d1, r2, e2, c2⟩ | ⟨d1, e2⟩
    · have hd : isDg (pkB b n (i + 1)) = true := by rw [isd, decide_eq_true_eq]; exact d1
      have hlt2 := isDg_lt hd
      have hd9 : (pkB b n (i + 1)).toNatClampNeg - 48 ≤ 9 := by
        obtain ⟨z, -, ez, tz⟩ := i_of (x := pkB b n (i + 1)) (by omega)
        rw [ez, nI_clamp (by omega)]
        omega
      rw [if_pos hd, show p_X10_takeDigit r1 0 = _ from e2, gB_v]
      dsimp only
      rw [if_neg (nI_nm (by omega))]
      rcases s_digit s c2 (by omega) 0 (by omega) with ⟨d3, r3, e3, c3⟩ | ⟨d3, e3⟩
      · have hd3 : isDg (pkB b n (i + 1 + 1)) = true := by rw [isd, decide_eq_true_eq]; exact d3
        have hd39 : (pkB b n (i + 1 + 1)).toNatClampNeg - 48 ≤ 9 := by
          obtain ⟨z, -, ez, tz⟩ := i_of (x := pkB b n (i + 1 + 1)) (by omega)
          rw [ez, nI_clamp (by omega)]
          omega
        rw [show p_X10_takeDigit r2 0 = _ from e3, gB_v]
        dsimp only
        rw [if_neg (nI_nm (by omega))]
        have ev : dgS b n 2 (i + 1) 0 = (i + 1 + 1 + 1, 10 * (10 * 0 + ((pkB b n (i + 1)).toNatClampNeg - 48)) + ((pkB b n (i + 1 + 1)).toNatClampNeg - 48)) := by
          unfold dgS
          rw [if_pos hd]
          unfold dgS
          rw [if_pos hd3]
          rfl
        have en : nI (kdS (pkB b n i)) + (nI ((pkB b n (i + 1)).toNatClampNeg - 48) * 10 + nI ((pkB b n (i + 1 + 1)).toNatClampNeg - 48)) = nI (kdS (pkB b n i) + (10 * (10 * 0 + ((pkB b n (i + 1)).toNatClampNeg - 48)) + ((pkB b n (i + 1 + 1)).toNatClampNeg - 48))) := by
          show _ + (_ * nI 10 + _) = _
          rw [pk_mul, nI_add, nI_add]
          congr 1
          omega
        rw [ev, en]
        obtain ⟨r4, e4, c4⟩ := s_emit s c3 (by omega) (nI (kdS (pkB b n i) + (10 * (10 * 0 + ((pkB b n (i + 1)).toNatClampNeg - 48)) + ((pkB b n (i + 1 + 1)).toNatClampNeg - 48)))) (nm_no (emN _ (by omega) (by omega)))
        rw [e4, gB_v]
        exact sO_r ⟨r4, rfl, c4⟩
      · have hd3 : ¬ isDg (pkB b n (i + 1 + 1)) = true := by rw [isd, decide_eq_true_eq]; exact d3
        rw [show p_X10_takeDigit r2 0 = _ from e3, gB_v]
        dsimp only
        rw [if_pos rfl]
        have ev : dgS b n 2 (i + 1) 0 = (i + 1 + 1, 10 * 0 + ((pkB b n (i + 1)).toNatClampNeg - 48)) := by
          unfold dgS
          rw [if_pos hd]
          unfold dgS
          rw [if_neg hd3]
        have en : nI (kdS (pkB b n i)) + nI ((pkB b n (i + 1)).toNatClampNeg - 48) = nI (kdS (pkB b n i) + (10 * 0 + ((pkB b n (i + 1)).toNatClampNeg - 48))) := by
          rw [nI_add]
          congr 1
          omega
        rw [ev, en]
        obtain ⟨r4, e4, c4⟩ := s_emit s c2 (by omega) (nI (kdS (pkB b n i) + (10 * 0 + ((pkB b n (i + 1)).toNatClampNeg - 48)))) (nm_no (emN _ (by omega) (by omega)))
        rw [e4, gB_v]
        exact sO_r ⟨r4, rfl, c4⟩
    · have hd : ¬ isDg (pkB b n (i + 1)) = true := by rw [isd, decide_eq_true_eq]; exact d1
      rw [if_neg hd, show p_X10_takeDigit r1 0 = _ from e2, gB_v]
      dsimp only
      rw [if_pos rfl]
      obtain ⟨r2, e2, f2⟩ := s_refuse s c1 1
      rw [show p_X10_refuse r1 1 = _ from e2, gB_v]
      exact sO_l ⟨r2, rfl, f2⟩
/-- a parser of pieces that follows F -/
def sFol (n a : Nat) (r0 : gIt) (K G : List Int32) (L : Nat) (P : gIt → Nat → Int32 → Option (Int32 × gIt)) (F : Nat → Nat → gOut) : Prop := ∀ i W r, i ≤ n → W.length < i → sCS a r0 i K G W [] r → sOut a r0 K G W (F L i) (P r a (nI L))
theorem op_no {w : Int32} (h : w.toInt < 0) : ∀ o, o < 32 → (nI o ∈ ([] : List Int32) ↔ nI o = w) := nm_no (fun o ho q => by
  rw [← q, nI_toInt (by omega)] at h
  omega)
theorem x9_allL (s : sSt b n T a r0) {K G : List Int32} {L : Nat} {P : gIt → Nat → Int32 → Option (Int32 × gIt)} {F : Nat → Nat → gOut} (hF : ∀ i, okC n i (2 * L + 2) (F L i)) (hP : sFol n a r0 K G L P F) {W : List Int32} : ∀ (m f j : Nat) (ws : List Int32) (r : gIt), m ≤ 100 → m < f → j ≤ n → (W ++ ws).length < j → sCS a r0 j K G (W ++ ws) [] r → sOut a r0 K G W (alL b n F L m j ws) (p_X9_readAll_13 P a (nI L) f r (nI (100 - m))) := by
  intro m
  have hn := s.2.1
  induction m with
  | zero =>
    intro f j ws r _ hf hj hl hc
    obtain ⟨f, rfl⟩ : ∃ q, f = q + 1 := ⟨f - 1, by omega⟩
    unfold p_X9_readAll_13 alL
    rw [if_pos (show (100 : Int32) ≤ nI (100 - 0) by decide)]
    exact sO_r ⟨r, rfl, hc⟩
  | succ m ih =>
    intro f j ws r hm hf hj hl hc
    obtain ⟨f, rfl⟩ : ∃ q, f = q + 1 := ⟨f - 1, by omega⟩
    unfold p_X9_readAll_13 alL
    rw [if_neg (show ¬ (100 : Int32) ≤ nI (100 - (m + 1)) from nI_ge (b := 100) (by omega) (by omega)), nI_1, show 100 - (m + 1) + 1 = 100 - m by omega]
    rcases s_take s hc hj 38 with ⟨q, r', e', c'⟩ | ⟨q, e'⟩
    · have hlt := pkB_lt (b := b) (n := n) (i := j) (by rw [q]; decide)
      rw [if_pos q, e', gB_v]
      dsimp only
      rw [if_neg n10]
      have hp := hP (j + 1) (W ++ ws) r' (by omega) (by omega) c'
      cases eF : F L (j + 1) with
      | inl g =>
        obtain ⟨r2, e2, f2⟩ := hp.1 g.1 g.2 eF
        rw [e2, gB_v]
        exact sO_l ⟨r2, rfl, f2⟩
      | inr g =>
        obtain ⟨r2, e2, c2⟩ := hp.2 g.1 g.2 eF
        obtain ⟨o1, o2, o3, -, -⟩ := hF (j + 1) g.1 g.2 eF
        have hl2 : (W ++ ws ++ g.2).length < g.1 - 1 := by rw [List.length_append]; omega
        obtain ⟨r3, e3, c3⟩ := s_emit s c2 (by omega) (-2) (op_no (by decide))
        rw [e2, gB_v]
        dsimp only
        rw [if_neg n10, e3, gB_v]
        refine ih f g.1 _ r3 (by omega) (by omega) o2 ?_ ?_
        · rw [← List.append_assoc, ← List.append_assoc, List.length_append, List.length_singleton]; omega
        · rw [← List.append_assoc, ← List.append_assoc]; exact c3
    · rw [if_neg q, e', gB_v]
      exact sO_r ⟨r, rfl, hc⟩
theorem x9_all (s : sSt b n T a r0) {K G : List Int32} {L : Nat} {P : gIt → Nat → Int32 → Option (Int32 × gIt)} {F : Nat → Nat → gOut} (hF : ∀ i, okC n i (2 * L + 2) (F L i)) (hP : sFol n a r0 K G L P F) {W : List Int32} {i : Nat} {r : gIt} (hi : i ≤ n) (hl : W.length < i) (hc : sCS a r0 i K G W [] r) : sOut a r0 K G W (alS b n F L i) (p_X9_readAll P r a (nI L)) := by
  unfold p_X9_readAll alS
  have hp := hP i W r hi hl hc
  cases eF : F L i with
  | inl g =>
    obtain ⟨r2, e2, f2⟩ := hp.1 g.1 g.2 eF
    rw [e2, gB_v]
    exact sO_l ⟨r2, rfl, f2⟩
  | inr g =>
    obtain ⟨r2, e2, c2⟩ := hp.2 g.1 g.2 eF
    obtain ⟨o1, o2, o3, -, -⟩ := hF i g.1 g.2 eF
    rw [e2, gB_v]
    dsimp only
    rw [if_neg n10]
    exact x9_allL s hF hP 100 gFu g.1 g.2 r2 (by omega) (by unfold gFu; omega) o2 (by rw [List.length_append]; omega) c2
theorem x9_eiL (s : sSt b n T a r0) {K G : List Int32} {L : Nat} {P : gIt → Nat → Int32 → Option (Int32 × gIt)} {F : Nat → Nat → gOut} (hF : ∀ i, okC n i (2 * L + 2) (F L i)) (hP : sFol n a r0 K G L P F) {W : List Int32} : ∀ (m f j : Nat) (ws : List Int32) (r : gIt), m ≤ 100 → m < f → j ≤ n → (W ++ ws).length < j → sCS a r0 j K G (W ++ ws) [] r → sOut a r0 K G W (eiL b n F L m j ws) (p_X9_readEither_13 P a (nI L) f r (nI (100 - m))) := by
  intro m
  have hn := s.2.1
  induction m with
  | zero =>
    intro f j ws r _ hf hj hl hc
    obtain ⟨f, rfl⟩ : ∃ q, f = q + 1 := ⟨f - 1, by omega⟩
    unfold p_X9_readEither_13 eiL
    rw [if_pos (show (100 : Int32) ≤ nI (100 - 0) by decide)]
    exact sO_r ⟨r, rfl, hc⟩
  | succ m ih =>
    intro f j ws r hm hf hj hl hc
    obtain ⟨f, rfl⟩ : ∃ q, f = q + 1 := ⟨f - 1, by omega⟩
    unfold p_X9_readEither_13 eiL
    rw [if_neg (show ¬ (100 : Int32) ≤ nI (100 - (m + 1)) from nI_ge (b := 100) (by omega) (by omega)), nI_1, show 100 - (m + 1) + 1 = 100 - m by omega]
    rcases s_take s hc hj 124 with ⟨q, r', e', c'⟩ | ⟨q, e'⟩
    · have hlt := pkB_lt (b := b) (n := n) (i := j) (by rw [q]; decide)
      rw [if_pos q, e', gB_v]
      dsimp only
      rw [if_neg n10]
      have hp := x9_all s hF hP (W := W ++ ws) (i := j + 1) (by omega) (by omega) c'
      cases eF : alS b n F L (j + 1) with
      | inl g =>
        obtain ⟨r2, e2, f2⟩ := hp.1 g.1 g.2 eF
        rw [e2, gB_v]
        exact sO_l ⟨r2, rfl, f2⟩
      | inr g =>
        obtain ⟨r2, e2, c2⟩ := hp.2 g.1 g.2 eF
        obtain ⟨o1, o2, o3, -, -⟩ := alS_ok (b := b) hF (j + 1) g.1 g.2 eF
        have hl2 : (W ++ ws ++ g.2).length < g.1 - 1 := by rw [List.length_append]; omega
        obtain ⟨r3, e3, c3⟩ := s_emit s c2 (by omega) (-3) (op_no (by decide))
        rw [e2, gB_v]
        dsimp only
        rw [if_neg n10, e3, gB_v]
        refine ih f g.1 _ r3 (by omega) (by omega) o2 ?_ ?_
        · rw [← List.append_assoc, ← List.append_assoc, List.length_append, List.length_singleton]; omega
        · rw [← List.append_assoc, ← List.append_assoc]; exact c3
    · rw [if_neg q, e', gB_v]
      exact sO_r ⟨r, rfl, hc⟩
theorem x9_ei (s : sSt b n T a r0) {K G : List Int32} {L : Nat} {P : gIt → Nat → Int32 → Option (Int32 × gIt)} {F : Nat → Nat → gOut} (hF : ∀ i, okC n i (2 * L + 2) (F L i)) (hP : sFol n a r0 K G L P F) {W : List Int32} {i : Nat} {r : gIt} (hi : i ≤ n) (hl : W.length < i) (hc : sCS a r0 i K G W [] r) : sOut a r0 K G W (eiS b n F L i) (p_X9_readEither P r a (nI L)) := by
  unfold p_X9_readEither eiS
  have hp := x9_all s hF hP hi hl hc
  cases eF : alS b n F L i with
  | inl g =>
    obtain ⟨r2, e2, f2⟩ := hp.1 g.1 g.2 eF
    rw [e2, gB_v]
    exact sO_l ⟨r2, rfl, f2⟩
  | inr g =>
    obtain ⟨r2, e2, c2⟩ := hp.2 g.1 g.2 eF
    obtain ⟨o1, o2, o3, -, -⟩ := alS_ok (b := b) hF i g.1 g.2 eF
    rw [e2, gB_v]
    dsimp only
    rw [if_neg n10]
    exact x9_eiL s hF hP 100 gFu g.1 g.2 r2 (by omega) (by unfold gFu; omega) o2 (by rw [List.length_append]; omega) c2
/-- a bracket closes, or a fault -/
theorem x9_closes (s : sSt b n T a r0) {i : Nat} {K G W : List Int32} {r : gIt} (h : sCS a r0 i K G W [] r) (hi : i ≤ n) : (pkB b n i = 41 ∧ ∃ r', p_X9_closes r = some (1, r') ∧ sCS a r0 (i + 1) K G W [] r') ∨ (¬ pkB b n i = 41 ∧ ∃ r', p_X9_closes r = some (0, r') ∧ sFl a r0 1 i r') := by
  unfold p_X9_closes
  rcases s_take s h hi 41 with ⟨q, r', e', c'⟩ | ⟨q, e'⟩
  · rw [e', gB_v]
    exact Or.inl ⟨q, r', rfl, c'⟩
  · obtain ⟨r', e3, f'⟩ := s_refuse s h 1
    rw [e', gB_v]
    dsimp only
    rw [if_pos p00, show p_X10_refuse r 1 = _ from e3, gB_v]
    exact Or.inr ⟨q, r', rfl, f'⟩
theorem x9_piece (s : sSt b n T a r0) {K G : List Int32} : ∀ (fu L : Nat), L ≤ 6 → 7 ≤ fu + L → sFol n a r0 K G L (p_X9_readPiece fu) (piS b n T fu) := by
  intro fu
  have hn := s.2.1
  induction fu with
  | zero => intro L h1 h2; omega
  | succ fu ih =>
    intro L hL hfu i W r hi hl hc
    unfold p_X9_readPiece piS
    rw [s_peek s hc hi, gB_v]
    have lvY : L < 6 → nI L < (6 : Int32) := fun c2 => nI_lt (b := 6) c2 (by omega)
    have lvN : ¬ L < 6 → ¬ nI L < (6 : Int32) := fun c2 => nI_nlt (b := 6) (by omega) (by omega)
    by_cases c0 : pkB b n i = 33
    · have hlt := pkB_lt (b := b) (n := n) (i := i) (by rw [c0]; decide)
      rw [if_pos c0, if_pos c0]
      by_cases c2 : L < 6
      · rw [if_pos (lvY c2), if_pos c2, hc.1, nI_1, nI_1, gL_b, gL_b, if_pos c0]
        unfold p_X9_readNot
        have hp := ih (L + 1) (by omega) (by omega) (i + 1) W _ (by omega) (by omega) (s_3 s hc (i + 1))
        cases eF : piS b n T fu (L + 1) (i + 1) with
        | inl g =>
          obtain ⟨r2, e2, f2⟩ := hp.1 g.1 g.2 eF
          rw [e2, gB_v]
          exact sO_l ⟨r2, rfl, f2⟩
        | inr g =>
          obtain ⟨r2, e2, c2'⟩ := hp.2 g.1 g.2 eF
          obtain ⟨o1, o2, o3, -, -⟩ := piS_ok (b := b) (n := n) (T := T) fu (L + 1) (i + 1) (by omega) g.1 g.2 eF
          obtain ⟨r3, e3, c3⟩ := s_emit s c2' (by rw [List.length_append]; omega) (-1) (op_no (by decide))
          rw [e2, gB_v]
          dsimp only
          rw [if_neg n10, e3, gB_v]
          rw [List.append_assoc] at c3
          exact sO_r ⟨r3, rfl, c3⟩
      · obtain ⟨r', e3, f'⟩ := s_refuse s hc 5
        rw [if_neg (lvN c2), if_neg c2, show p_X10_refuse r 5 = _ from e3, gB_v]
        exact sO_l ⟨r', rfl, f'⟩
    · rw [if_neg c0, if_neg c0]
      by_cases c1 : pkB b n i = 40
      · have hlt := pkB_lt (b := b) (n := n) (i := i) (by rw [c1]; decide)
        rw [if_pos c1, if_pos c1]
        by_cases c2 : L < 6
        · rw [if_pos (lvY c2), if_pos c2, hc.1, nI_1, nI_1, gL_b, gL_b, if_neg c0]
          have hp := x9_ei s (L := L + 1) (P := p_X9_readPiece fu) (F := piS b n T fu) (fun i => piS_ok fu (L + 1) i (by omega)) (ih (L + 1) (by omega) (by omega)) (W := W) (i := i + 1) (by omega) (by omega) (s_3 s hc (i + 1))
          cases eF : eiS b n (piS b n T fu) (L + 1) (i + 1) with
          | inl g =>
            obtain ⟨r2, e2, f2⟩ := hp.1 g.1 g.2 eF
            rw [e2, gB_v]
            exact sO_l ⟨r2, rfl, f2⟩
          | inr g =>
            obtain ⟨r2, e2, c2'⟩ := hp.2 g.1 g.2 eF
            obtain ⟨o1, o2, o3, -, -⟩ := eiS_ok (b := b) (F := piS b n T fu) (L := L + 1) (fun i => piS_ok fu (L + 1) i (by omega)) (i + 1) g.1 g.2 eF
            rw [e2, gB_v]
            dsimp only
            rw [if_neg n10]
            rcases x9_closes s c2' o2 with ⟨q, r', e', c'⟩ | ⟨q, r', e', f'⟩
            · rw [if_pos q, e', gB_v]
              exact sO_r ⟨r', rfl, c'⟩
            · rw [if_neg q, e', gB_v]
              exact sO_l ⟨r', rfl, f'⟩
        · obtain ⟨r', e3, f'⟩ := s_refuse s hc 5
          rw [if_neg (lvN c2), if_neg c2, show p_X10_refuse r 5 = _ from e3, gB_v]
          exact sO_l ⟨r', rfl, f'⟩
      · rw [if_neg c1, if_neg c1]
        by_cases c3 : pkB b n i = 35
        · have hlt := pkB_lt (b := b) (n := n) (i := i) (by rw [c3]; decide)
          rw [if_pos c3, if_pos c3, hc.1, nI_1, gL_b, gL_b]
          have hp := x9_many s (s_3 s hc (i + 1)) (by omega) (by omega)
          cases eF : hmS b n (i + 1) with
          | inl g =>
            obtain ⟨r2, e2, f2⟩ := hp.1 g.1 g.2 eF
            rw [e2, gB_v]
            exact sO_l ⟨r2, rfl, f2⟩
          | inr g =>
            obtain ⟨r2, e2, c2'⟩ := hp.2 g.1 g.2 eF
            rw [e2, gB_v]
            exact sO_r ⟨r2, rfl, c2'⟩
        · rw [if_neg c3, if_neg c3]
          have hp := x9_who s hc hi
          cases eF : whS b n T i with
          | inl g =>
            obtain ⟨r2, e2, f2⟩ := hp.1 g.1 g.2 eF
            rw [e2, gB_v]
            dsimp only
            rw [if_pos rfl]
            exact sO_l ⟨r2, rfl, f2⟩
          | inr g =>
            obtain ⟨o, r2, ho, ew, e2, c2'⟩ := hp.2 g.1 g.2 eF
            rw [e2, gB_v]
            dsimp only
            rw [if_neg (nI_nm (by omega))]
            obtain ⟨r3, e3, c3⟩ := s_emit s c2' (by omega) (nI o) (fun o' _ => List.mem_singleton)
            rw [e3, gB_v]
            rw [← ew] at c3
            exact sO_r ⟨r3, rfl, c3⟩
end Sc
