/-! ===== the class reads an act ===== -/
def aFr (a : Nat) (r0 r : gIt) : Prop := (∀ x, x ≠ 11 → x ≠ a → x ≠ a + 1 → r x = r0 x) ∧ (∀ j, j ≠ 3 → j ≠ 4 → r 11 j = r0 11 j) ∧ ∀ j, j ≠ 6 → r a j = r0 a j
def gtW (W : List Int32) (k : Nat) : Int32 := W[k]?.getD 0
theorem gtW_l {W V : List Int32} {k : Nat} (h : k < W.length) : gtW (W ++ V) k = gtW W k := by unfold gtW; rw [List.getElem?_append_left h]
theorem gtW_r {W : List Int32} {w : Int32} : gtW (W ++ [w]) W.length = w := by unfold gtW; simp
def aCS (a : Nat) (r0 : gIt) (i : Nat) (W : List Int32) (r : gIt) : Prop := r 11 3 = nI i ∧ r a 6 = nI W.length ∧ (∀ k, k < W.length → r (a + 1) k = gtW W k) ∧ r 11 4 = r0 11 4 ∧ aFr a r0 r
/-- the tape that is read, and the act that is written on -/
def aSt (b : Nat → Int32) (n a : Nat) (r0 : gIt) : Prop := (a = 103 ∨ a = 126) ∧ n ≤ 60 ∧ r0 11 2 = nI n ∧ ∀ j, j < n → r0 12 j = b j ∧ 0 ≤ (b j).toInt ∧ (b j).toInt ≤ 255
def aF (a : Nat) (r0 : gIt) (k p : Nat) (r : gIt) : Prop := r 11 4 = -1000 * nI k - nI p ∧ aFr a r0 r
def cOut (n a : Nat) (r0 : gIt) (W : List Int32) (o : gOut) (res : Option (Int32 × gIt)) : Prop := (∀ k p, o = .inl (k, p) → ∃ r', res = some (0, r') ∧ aF a r0 k p r') ∧ ∀ j ws, o = .inr (j, ws) → ∃ r', res = some (1, r') ∧ aCS a r0 j (W ++ ws) r'
theorem n10 : ¬ (1 : Int32) = 0 := by decide
theorem p00 : (0 : Int32) = 0 := rfl
section Ac
variable {b : Nat → Int32} {n a : Nat} {r0 : gIt}
theorem a_ne (s : aSt b n a r0) : a ≠ 11 ∧ a ≠ 12 ∧ a + 1 ≠ 11 ∧ a + 1 ≠ 12 ∧ a + 1 ≠ a := by rcases s.1 with h | h <;> omega
theorem x10_peek (s : aSt b n a r0) {i : Nat} {W : List Int32} {r : gIt} (h : aCS a r0 i W r) (hi : i ≤ n) : p_X10_peek r = some (pkB b n i) := by
  obtain ⟨h1, -, -, -, f1, f2, -⟩ := h
  obtain ⟨n1, n2, n3, n4, -⟩ := a_ne s
  obtain ⟨-, hn, e2, hb⟩ := s
  unfold p_X10_peek pkB
  rw [h1, f2 2 (by decide) (by decide), e2, if_neg (nI_pos (by omega))]
  by_cases c : i < n
  · rw [if_neg (nI_ge c (by omega)), if_neg (show ¬ (100 : Int32) ≤ nI i from nI_ge (b := 100) (by omega) (by omega)), gck_t (gin_nI (by omega) (by omega)), nI_clamp (by omega), f1 12 (by decide) (Ne.symm n2) (Ne.symm n4), (hb i c).1, if_pos c]
  · rw [if_pos (nI_le (by omega) (by omega)), if_neg c]
theorem aCS_3 (s : aSt b n a r0) {i : Nat} {W : List Int32} {r : gIt} (h : aCS a r0 i W r) (j : Nat) : aCS a r0 j W (gu2 r 11 3 (nI j)) := by
  obtain ⟨n1, n2, n3, n4, n5⟩ := a_ne s
  obtain ⟨h1, h2, h3, h4, f1, f2, f3⟩ := h
  exact ⟨by rw [gu_sl, if_pos rfl], by rw [gu_rd n1]; exact h2, fun k hk => by rw [gu_rd n3]; exact h3 k hk, by rw [gu_sl, if_neg (by decide)]; exact h4, fun x q1 q2 q3 => by rw [gu2_ne q1]; exact f1 x q1 q2 q3, fun j q1 q2 => by rw [gu_sl, if_neg q1]; exact f2 j q1 q2, fun j q => by rw [gu_rd n1]; exact f3 j q⟩
theorem x10_take (s : aSt b n a r0) {i : Nat} {W : List Int32} {r : gIt} (h : aCS a r0 i W r) (hi : i ≤ n) (c : Int32) : (pkB b n i = c ∧ ∃ r', p_X10_take r c = some (1, r') ∧ aCS a r0 (i + 1) W r') ∨ (¬ pkB b n i = c ∧ p_X10_take r c = some (0, r)) := by
  unfold p_X10_take
  rw [x10_peek s h hi, gB_v]
  by_cases q : pkB b n i = c
  · rw [if_pos q, h.1, nI_1, gL_b, gL_b]
    exact Or.inl ⟨q, _, rfl, aCS_3 s h (i + 1)⟩
  · rw [if_neg q]
    exact Or.inr ⟨q, rfl⟩
theorem x10_refuse (s : aSt b n a r0) {i : Nat} {W : List Int32} {r : gIt} (h : aCS a r0 i W r) (k : Nat) : ∃ r', p_X10_refuse r (nI k) = some (0, r') ∧ aF a r0 k i r' := by
  obtain ⟨n1, n2, n3, n4, n5⟩ := a_ne s
  obtain ⟨h1, h2, h3, h4, f1, f2, f3⟩ := h
  unfold p_X10_refuse
  rw [h1, gL_b, gL_b]
  exact ⟨_, rfl, by rw [gu_sl, if_pos rfl], fun x q1 q2 q3 => by rw [gu2_ne q1]; exact f1 x q1 q2 q3, fun j q1 q2 => by rw [gu_sl, if_neg q2]; exact f2 j q1 q2, fun j q => by rw [gu_rd n1]; exact f3 j q⟩
theorem x0_emit (s : aSt b n a r0) {i : Nat} {W : List Int32} {r : gIt} (h : aCS a r0 i W r) (hW : W.length < 60) (w : Int32) : ∃ r', p_X0_emit r a w = some r' ∧ aCS a r0 i (W ++ [w]) r' := by
  obtain ⟨n1, n2, n3, n4, n5⟩ := a_ne s
  obtain ⟨h1, h2, h3, h4, f1, f2, f3⟩ := h
  unfold p_X0_emit
  rw [h2, if_neg (nI_pos (by omega)), if_neg (nI_ge (by omega) (by omega)), gck_t (gin_nI (by omega) (by omega)), gL_b, gu_rd (Ne.symm n5), h2, nI_1, gL_b, gL_b, nI_clamp (by omega)]
  refine ⟨_, rfl, by rw [gu_rd (Ne.symm n1), gu_rd (Ne.symm n3)]; exact h1, by rw [gu_sl, if_pos rfl, List.length_append]; rfl, fun k hk => ?_, by rw [gu_rd (Ne.symm n1), gu_rd (Ne.symm n3)]; exact h4, fun x q1 q2 q3 => by rw [gu2_ne q2, gu2_ne q3]; exact f1 x q1 q2 q3, fun j q1 q2 => by rw [gu_rd (Ne.symm n1), gu_rd (Ne.symm n3)]; exact f2 j q1 q2, fun j q => by rw [gu_sl, if_neg q, gu_rd (Ne.symm n5)]; exact f3 j q⟩
  rw [List.length_append] at hk
  have hk1 : k < W.length + 1 := hk
  rw [gu_rd n5, gu_sl]
  by_cases e : k = W.length
  · rw [if_pos e, e, gtW_r]
  · rw [if_neg e, gtW_l (by omega)]; exact h3 k (by omega)
theorem isDg_i (c : Int32) : (if c < 48 then some (0 : Int32) else if (57 : Int32) < c then some 0 else some 1) = some (if isDg c then 1 else 0) := by
  unfold isDg
  simp only [Int32.lt_iff_toInt_lt, Int32.reduceToInt]
  by_cases c1 : c.toInt < 48
  · rw [if_pos c1, decide_eq_false (by omega)]; rfl
  · rw [if_neg c1]
    by_cases c2 : 57 < c.toInt
    · rw [if_pos c2, decide_eq_false (by omega)]; rfl
    · rw [if_neg c2, decide_eq_true (by omega)]; rfl
theorem x10_atDigit (s : aSt b n a r0) {i : Nat} {W : List Int32} {r : gIt} (h : aCS a r0 i W r) (hi : i ≤ n) : p_X10_atDigit r = some (if isDg (pkB b n i) then 1 else 0) := by
  unfold p_X10_atDigit
  rw [x10_peek s h hi, gB_v, gB_v]
  exact isDg_i _
theorem x10_takeDigit (s : aSt b n a r0) {i : Nat} {W : List Int32} {r : gIt} (h : aCS a r0 i W r) (hi : i ≤ n) (hd : isDg (pkB b n i) = true) : ∃ r', p_X10_takeDigit r 0 = some (nI ((pkB b n i).toNatClampNeg - 48), r') ∧ aCS a r0 (i + 1) W r' := by
  unfold isDg at hd
  rw [decide_eq_true_eq] at hd
  obtain ⟨z, -, ez, tz⟩ := i_of (x := pkB b n i) (by omega)
  unfold p_X10_takeDigit
  rw [x10_peek s h hi, gB_v, ez, gL_b, nI_clamp (by omega), show nI z - (48 : Int32) = nI (z - 48) from pk_sub (b := 48) (by omega), if_neg (nI_pos (by omega)), if_pos (show nI (z - 48) ≤ (9 : Int32) from nI_le (b := 9) (by omega) (by omega)), h.1, nI_1, gL_b, gL_b]
  exact ⟨_, rfl, aCS_3 s h (i + 1)⟩
theorem x0_number (s : aSt b n a r0) {W : List Int32} {i0 : Nat} (hW : W.length ≤ i0) : ∀ (m f i v : Nat) (r : gIt), m ≤ 6 → m < f → i0 ≤ i → i ≤ n → (m < 6 ∨ isDg (pkB b n i) = true) → (m < 6 → i0 < i) → aCS a r0 i W r → (isDg (pkB b n (dgS b n m i v).1) = true → ∃ r', p_X0_readNumber_4 a f r (nI v) (nI (6 - m)) = some (0, r') ∧ aF a r0 2 (dgS b n m i v).1 r') ∧ (¬ isDg (pkB b n (dgS b n m i v).1) = true → ∃ r', p_X0_readNumber_4 a f r (nI v) (nI (6 - m)) = some (1, r') ∧ aCS a r0 (dgS b n m i v).1 (W ++ [nI (dgS b n m i v).2]) r') := by
  intro m
  have hn := s.2.1
  induction m with
  | zero =>
    intro f i v r _ hf h0 hi _ hlt hc
    obtain ⟨f, rfl⟩ : ∃ q, f = q + 1 := ⟨f - 1, by omega⟩
    unfold p_X0_readNumber_4 dgS
    rw [if_pos (show (6 : Int32) ≤ nI (6 - 0) by decide), x10_atDigit s hc hi, gB_v]
    dsimp only
    refine ⟨fun q => ?_, fun q => ?_⟩
    · obtain ⟨r', e', f'⟩ := x10_refuse s hc 2
      rw [if_pos q, if_neg (by decide), show p_X10_refuse r 2 = _ from e', gB_v]
      exact ⟨r', rfl, f'⟩
    · obtain ⟨r', e', f'⟩ := x0_emit s hc (by have := hlt (by omega); omega) (nI v)
      rw [if_neg q, if_pos rfl, e', gB_v]
      exact ⟨r', rfl, f'⟩
  | succ m ih =>
    intro f i v r hm hf h0 hi hd hlt hc
    obtain ⟨f, rfl⟩ : ∃ q, f = q + 1 := ⟨f - 1, by omega⟩
    unfold p_X0_readNumber_4 dgS
    rw [if_neg (show ¬ (6 : Int32) ≤ nI (6 - (m + 1)) from nI_ge (b := 6) (by omega) (by omega))]
    by_cases c : isDg (pkB b n i) = true
    · obtain ⟨r', e', c'⟩ := x10_takeDigit s hc hi c
      have hl := isDg_lt c
      have ed : p_X10_atDigit r = some 1 := by rw [x10_atDigit s hc hi, if_pos c]
      rw [if_pos c, ed, gB_v, if_neg n10, e', gB_v]
      dsimp only
      rw [gL_b, show nI v * 10 + nI ((pkB b n i).toNatClampNeg - 48) = nI (10 * v + ((pkB b n i).toNatClampNeg - 48)) by
        show nI v * nI 10 + _ = _
        rw [pk_mul, nI_add, Nat.mul_comm], nI_1, show 6 - (m + 1) + 1 = 6 - m by omega]
      exact ih f (i + 1) _ r' (by omega) (by omega) (by omega) (by omega) (Or.inl (by omega)) (fun _ => by omega) c'
    · have ed : p_X10_atDigit r = some 0 := by rw [x10_atDigit s hc hi, if_neg c]
      rw [if_neg c, ed, gB_v, if_pos p00, gB_v, if_pos p00]
      refine ⟨fun q => absurd q c, fun _ => ?_⟩
      have hm6 : m + 1 < 6 := by
        rcases hd with q | q
        · exact q
        · exact absurd q c
      obtain ⟨r', e', f'⟩ := x0_emit s hc (by have := hlt hm6; omega) (nI v)
      rw [e', gB_v]
      exact ⟨r', rfl, f'⟩
theorem wd_i (c : Int32) : p_X0_wordOf c = some (wdS c) := by
  unfold p_X0_wordOf wdS
  by_cases c1 : c = 97
  · rw [if_pos c1, if_pos c1]
  · rw [if_neg c1, if_neg c1]
    by_cases c2 : c = 112
    · rw [if_pos c2, if_pos c2]
    · rw [if_neg c2, if_neg c2]
      by_cases c3 : c = 116
      · rw [if_pos c3, if_pos c3]
      · rw [if_neg c3, if_neg c3]
        by_cases c4 : c = 118
        · rw [if_pos c4, if_pos c4]
        · rw [if_neg c4, if_neg c4]
          by_cases c5 : c = 119
          · rw [if_pos c5, if_pos c5]
          · rw [if_neg c5, if_neg c5]
theorem cO_l {W : List Int32} {k p : Nat} {res : Option (Int32 × gIt)} (h : ∃ r', res = some (0, r') ∧ aF a r0 k p r') : cOut n a r0 W (.inl (k, p)) res := ⟨fun k' p' e => by
  rw [Sum.inl.injEq, Prod.mk.injEq] at e
  rw [← e.1, ← e.2]
  exact h, fun j ws e => by exact absurd e (by simp)⟩
theorem cO_r {W : List Int32} {j : Nat} {ws : List Int32} {res : Option (Int32 × gIt)} (h : ∃ r', res = some (1, r') ∧ aCS a r0 j (W ++ ws) r') : cOut n a r0 W (.inr (j, ws)) res := ⟨fun k p e => by exact absurd e (by simp), fun j' ws' e => by
  rw [Sum.inr.injEq, Prod.mk.injEq] at e
  rw [← e.1, ← e.2]
  exact h⟩
/-- a parser of factors that follows F -/
def cFol (b : Nat → Int32) (n a : Nat) (r0 : gIt) (L : Nat) (P : gIt → Nat → Int32 → Option (Int32 × gIt)) (F : Nat → Nat → gOut) : Prop := ∀ i W r, i ≤ n → W.length ≤ i → aCS a r0 i W r → cOut n a r0 W (F L i) (P r a (nI L))
theorem x0_prodL (s : aSt b n a r0) {L : Nat} {P : gIt → Nat → Int32 → Option (Int32 × gIt)} {F : Nat → Nat → gOut} (hF : ∀ i, okW n i (2 * L + 2) (F L i)) (hP : cFol b n a r0 L P F) {W : List Int32} : ∀ (m f j : Nat) (ws : List Int32) (r : gIt), m ≤ 100 → m < f → j ≤ n → (W ++ ws).length ≤ j → aCS a r0 j (W ++ ws) r → cOut n a r0 W (prL b n F L m j ws) (p_X0_readProduct_13 P a (nI L) f r (nI (100 - m))) := by
  intro m
  have hn := s.2.1
  induction m with
  | zero =>
    intro f j ws r _ hf hj hl hc
    obtain ⟨f, rfl⟩ : ∃ q, f = q + 1 := ⟨f - 1, by omega⟩
    unfold p_X0_readProduct_13 prL
    rw [if_pos (show (100 : Int32) ≤ nI (100 - 0) by decide)]
    exact cO_r ⟨r, rfl, hc⟩
  | succ m ih =>
    intro f j ws r hm hf hj hl hc
    obtain ⟨f, rfl⟩ : ∃ q, f = q + 1 := ⟨f - 1, by omega⟩
    unfold p_X0_readProduct_13 prL
    rw [if_neg (show ¬ (100 : Int32) ≤ nI (100 - (m + 1)) from nI_ge (b := 100) (by omega) (by omega)), nI_1, show 100 - (m + 1) + 1 = 100 - m by omega]
    rcases x10_take s hc hj 42 with ⟨q, r', e', c'⟩ | ⟨q, e'⟩
    · have hlt := pkB_lt (b := b) (n := n) (i := j) (by rw [q]; decide)
      rw [if_pos q, e', gB_v]
      dsimp only
      rw [if_neg (by decide)]
      have hp := hP (j + 1) (W ++ ws) r' (by omega) (by omega) c'
      cases eF : F L (j + 1) with
      | inl g =>
        obtain ⟨r2, e2, f2⟩ := hp.1 g.1 g.2 eF
        rw [e2, gB_v]
        exact cO_l ⟨r2, rfl, f2⟩
      | inr g =>
        obtain ⟨r2, e2, c2⟩ := hp.2 g.1 g.2 eF
        obtain ⟨o1, o2, o3, -, -⟩ := hF (j + 1) g.1 g.2 eF
        have hl2 : (W ++ ws ++ g.2).length ≤ g.1 - 1 := by rw [List.length_append]; omega
        obtain ⟨r3, e3, c3⟩ := x0_emit s c2 (by omega) (-8)
        rw [e2, gB_v]
        dsimp only
        rw [if_neg (by decide), e3, gB_v]
        refine ih f g.1 _ r3 (by omega) (by omega) o2 ?_ ?_
        · rw [← List.append_assoc, ← List.append_assoc, List.length_append, List.length_singleton]; omega
        · rw [← List.append_assoc, ← List.append_assoc]; exact c3
    · rw [if_neg q, e', gB_v]
      exact cO_r ⟨r, rfl, hc⟩
theorem x0_prod (s : aSt b n a r0) {L : Nat} {P : gIt → Nat → Int32 → Option (Int32 × gIt)} {F : Nat → Nat → gOut} (hF : ∀ i, okW n i (2 * L + 2) (F L i)) (hP : cFol b n a r0 L P F) {W : List Int32} {i : Nat} {r : gIt} (hi : i ≤ n) (hl : W.length ≤ i) (hc : aCS a r0 i W r) : cOut n a r0 W (prS b n F L i) (p_X0_readProduct P r a (nI L)) := by
  unfold p_X0_readProduct prS
  have hp := hP i W r hi hl hc
  cases eF : F L i with
  | inl g =>
    obtain ⟨r2, e2, f2⟩ := hp.1 g.1 g.2 eF
    rw [e2, gB_v]
    exact cO_l ⟨r2, rfl, f2⟩
  | inr g =>
    obtain ⟨r2, e2, c2⟩ := hp.2 g.1 g.2 eF
    obtain ⟨o1, o2, o3, -, -⟩ := hF i g.1 g.2 eF
    rw [e2, gB_v]
    dsimp only
    rw [if_neg (by decide)]
    exact x0_prodL s hF hP 100 gFu g.1 g.2 r2 (by omega) (by unfold gFu; omega) o2 (by rw [List.length_append]; omega) c2
theorem x0_sumL (s : aSt b n a r0) {L : Nat} {P : gIt → Nat → Int32 → Option (Int32 × gIt)} {F : Nat → Nat → gOut} (hF : ∀ i, okW n i (2 * L + 2) (F L i)) (hP : cFol b n a r0 L P F) {W : List Int32} : ∀ (m f j : Nat) (ws : List Int32) (r : gIt), m ≤ 100 → m < f → j ≤ n → (W ++ ws).length ≤ j → aCS a r0 j (W ++ ws) r → cOut n a r0 W (suL b n F L m j ws) (p_X0_readSum_13 P a (nI L) f r (nI (100 - m))) := by
  intro m
  have hn := s.2.1
  induction m with
  | zero =>
    intro f j ws r _ hf hj hl hc
    obtain ⟨f, rfl⟩ : ∃ q, f = q + 1 := ⟨f - 1, by omega⟩
    unfold p_X0_readSum_13 suL
    rw [if_pos (show (100 : Int32) ≤ nI (100 - 0) by decide)]
    exact cO_r ⟨r, rfl, hc⟩
  | succ m ih =>
    intro f j ws r hm hf hj hl hc
    obtain ⟨f, rfl⟩ : ∃ q, f = q + 1 := ⟨f - 1, by omega⟩
    unfold p_X0_readSum_13 suL
    rw [if_neg (show ¬ (100 : Int32) ≤ nI (100 - (m + 1)) from nI_ge (b := 100) (by omega) (by omega)), nI_1, show 100 - (m + 1) + 1 = 100 - m by omega]
    -- the sign
    have sg : (smW (pkB b n j) = 0 ∧ (gB (p_X10_take r (43 : Int32)) fun r5 => gB (α := (Int32 × gIt)) (if r5.1 = 0 then gB (p_X10_take r5.2 (45 : Int32)) fun r18 => if r18.1 = 0 then some ((0 : Int32), r18.2) else some ((-7 : Int32), r18.2) else some ((-6 : Int32), r5.2)) fun ph7 => some ph7) = some (0, r)) ∨ (¬ smW (pkB b n j) = 0 ∧ ∃ r', (gB (p_X10_take r (43 : Int32)) fun r5 => gB (α := (Int32 × gIt)) (if r5.1 = 0 then gB (p_X10_take r5.2 (45 : Int32)) fun r18 => if r18.1 = 0 then some ((0 : Int32), r18.2) else some ((-7 : Int32), r18.2) else some ((-6 : Int32), r5.2)) fun ph7 => some ph7) = some (smW (pkB b n j), r') ∧ aCS a r0 (j + 1) (W ++ ws) r' ∧ j < n) := by
      rcases x10_take s hc hj 43 with ⟨q, r', e', c'⟩ | ⟨q, e'⟩
      · have hlt := pkB_lt (b := b) (n := n) (i := j) (by rw [q]; decide)
        have ew : smW (pkB b n j) = -6 := by unfold smW; rw [if_pos q]
        refine Or.inr ⟨by rw [ew]; decide, r', ?_, c', hlt⟩
        rw [e', gB_v]
        dsimp only
        rw [if_neg (by decide), gB_v, ew]
      · rcases x10_take s hc hj 45 with ⟨q2, r', e2, c'⟩ | ⟨q2, e2⟩
        · have hlt := pkB_lt (b := b) (n := n) (i := j) (by rw [q2]; decide)
          have ew : smW (pkB b n j) = -7 := by unfold smW; rw [if_neg q, if_pos q2]
          refine Or.inr ⟨by rw [ew]; decide, r', ?_, c', hlt⟩
          rw [e', gB_v]
          dsimp only
          rw [if_pos rfl, e2, gB_v]
          dsimp only
          rw [if_neg (by decide), gB_v, ew]
        · have ew : smW (pkB b n j) = 0 := by unfold smW; rw [if_neg q, if_neg q2]
          refine Or.inl ⟨ew, ?_⟩
          rw [e', gB_v]
          dsimp only
          rw [if_pos rfl, e2, gB_v]
          dsimp only
          rw [if_pos rfl, gB_v]
    have gBB : ∀ {α : Type} (x : Option gIt → Option α) (X : Option (Int32 × gIt)) (Y : Int32 × gIt → Option (Int32 × gIt)) (Z : Int32 × gIt → Option (Int32 × gIt)), (gB X fun r5 => gB (Y r5) fun ph => Z ph) = gB (gB X fun r5 => gB (Y r5) fun ph => some ph) Z := fun _ X Y Z => by
      cases X with
      | none => rfl
      | some v =>
        show gB (Y v) _ = gB (gB (Y v) fun ph => some ph) Z
        cases Y v <;> rfl
    rw [gBB (α := Nat) (fun _ => none)]
    rcases sg with ⟨q, e1⟩ | ⟨q, r', e1, c', hlt⟩
    · rw [if_pos q, e1, gB_v]
      dsimp only
      rw [if_pos rfl]
      exact cO_r ⟨r, rfl, hc⟩
    · rw [if_neg q, e1, gB_v]
      dsimp only
      rw [if_neg q]
      have hp := x0_prod s hF hP (W := W ++ ws) (i := j + 1) (by omega) (by omega) c'
      cases eF : prS b n F L (j + 1) with
      | inl g =>
        obtain ⟨r2, e2, f2⟩ := hp.1 g.1 g.2 eF
        rw [e2, gB_v]
        exact cO_l ⟨r2, rfl, f2⟩
      | inr g =>
        obtain ⟨r2, e2, c2⟩ := hp.2 g.1 g.2 eF
        obtain ⟨o1, o2, o3, -, -⟩ := prS_ok (b := b) hF (j + 1) g.1 g.2 eF
        have hl2 : (W ++ ws ++ g.2).length ≤ g.1 - 1 := by rw [List.length_append]; omega
        obtain ⟨r3, e3, c3⟩ := x0_emit s c2 (by omega) (smW (pkB b n j))
        rw [e2, gB_v]
        dsimp only
        rw [if_neg (by decide), e3, gB_v]
        refine ih f g.1 _ r3 (by omega) (by omega) o2 ?_ ?_
        · rw [← List.append_assoc, ← List.append_assoc, List.length_append, List.length_singleton]; omega
        · rw [← List.append_assoc, ← List.append_assoc]; exact c3
theorem x0_sum (s : aSt b n a r0) {L : Nat} {P : gIt → Nat → Int32 → Option (Int32 × gIt)} {F : Nat → Nat → gOut} (hF : ∀ i, okW n i (2 * L + 2) (F L i)) (hP : cFol b n a r0 L P F) {W : List Int32} {i : Nat} {r : gIt} (hi : i ≤ n) (hl : W.length ≤ i) (hc : aCS a r0 i W r) : cOut n a r0 W (suS b n F L i) (p_X0_readSum P r a (nI L)) := by
  unfold p_X0_readSum suS
  have hp := x0_prod s hF hP hi hl hc
  cases eF : prS b n F L i with
  | inl g =>
    obtain ⟨r2, e2, f2⟩ := hp.1 g.1 g.2 eF
    rw [e2, gB_v]
    exact cO_l ⟨r2, rfl, f2⟩
  | inr g =>
    obtain ⟨r2, e2, c2⟩ := hp.2 g.1 g.2 eF
    obtain ⟨o1, o2, o3, -, -⟩ := prS_ok (b := b) hF i g.1 g.2 eF
    rw [e2, gB_v]
    dsimp only
    rw [if_neg (by decide)]
    exact x0_sumL s hF hP 100 gFu g.1 g.2 r2 (by omega) (by unfold gFu; omega) o2 (by rw [List.length_append]; omega) c2
theorem x0_factor (s : aSt b n a r0) : ∀ (fu L : Nat), L ≤ 6 → 7 ≤ fu + L → cFol b n a r0 L (p_X0_readFactor fu) (faS b n fu) := by
  intro fu
  have hn := s.2.1
  induction fu with
  | zero => intro L h1 h2; omega
  | succ fu ih =>
    intro L hL hfu i W r hi hl hc
    unfold p_X0_readFactor faS
    rw [x10_peek s hc hi, gB_v]
    by_cases c1 : pkB b n i = 40
    · have hlt := pkB_lt (b := b) (n := n) (i := i) (by rw [c1]; decide)
      rw [if_pos c1, if_pos c1]
      by_cases c2 : L < 6
      · rw [if_pos (show nI L < (6 : Int32) from nI_lt (b := 6) c2 (by omega)), if_pos c2, hc.1, nI_1, nI_1, gL_b, gL_b]
        have hp := x0_sum s (L := L + 1) (P := p_X0_readFactor fu) (F := faS b n fu) (fun i => faS_ok fu (L + 1) i (by omega)) (ih (L + 1) (by omega) (by omega)) (W := W) (i := i + 1) (by omega) (by omega) (aCS_3 s hc (i + 1))
        cases eF : suS b n (faS b n fu) (L + 1) (i + 1) with
        | inl g =>
          obtain ⟨r2, e2, f2⟩ := hp.1 g.1 g.2 eF
          rw [e2, gB_v]
          exact cO_l ⟨r2, rfl, f2⟩
        | inr g =>
          obtain ⟨r2, e2, c2'⟩ := hp.2 g.1 g.2 eF
          obtain ⟨o1, o2, o3, -, -⟩ := suS_ok (b := b) (F := faS b n fu) (L := L + 1) (fun i => faS_ok fu (L + 1) i (by omega)) (i + 1) g.1 g.2 eF
          rw [e2, gB_v]
          dsimp only
          rw [if_neg n10]
          rcases x10_take s c2' o2 41 with ⟨q, r', e', c'⟩ | ⟨q, e'⟩
          · rw [if_pos q, e', gB_v]
            dsimp only
            rw [if_neg (by decide)]
            exact cO_r ⟨r', rfl, c'⟩
          · obtain ⟨r', e3, f'⟩ := x10_refuse s c2' 1
            rw [if_neg q, e', gB_v]
            dsimp only
            rw [if_pos rfl, show p_X10_refuse r2 1 = _ from e3, gB_v]
            exact cO_l ⟨r', rfl, f'⟩
      · obtain ⟨r', e3, f'⟩ := x10_refuse s hc 5
        rw [if_neg (show ¬ nI L < (6 : Int32) from nI_nlt (b := 6) (by omega) (by omega)), if_neg c2, show p_X10_refuse r 5 = _ from e3, gB_v]
        exact cO_l ⟨r', rfl, f'⟩
    · rw [if_neg c1, if_neg c1]
      by_cases c2 : isDg (pkB b n i) = true
      · have hlt := isDg_lt c2
        have ed : p_X10_atDigit r = some 1 := by rw [x10_atDigit s hc hi, if_pos c2]
        rw [if_pos c2, ed, gB_v, if_neg n10]
        obtain ⟨h1, h2⟩ := x0_number s (W := W) (i0 := i) hl 6 gFu i 0 r (by omega) (by unfold gFu; omega) (by omega) hi (Or.inr c2) (fun q => by omega) hc
        unfold p_X0_readNumber nbS
        by_cases c3 : isDg (pkB b n (dgS b n 6 i 0).1) = true
        · obtain ⟨r', e', f'⟩ := h1 c3
          rw [if_pos c3, show p_X0_readNumber_4 a gFu r 0 0 = _ from e', gB_v]
          exact cO_l ⟨r', rfl, f'⟩
        · obtain ⟨r', e', f'⟩ := h2 c3
          rw [if_neg c3, show p_X0_readNumber_4 a gFu r 0 0 = _ from e', gB_v]
          exact cO_r ⟨r', rfl, f'⟩
      · have ed : p_X10_atDigit r = some 0 := by rw [x10_atDigit s hc hi, if_neg c2]
        rw [if_neg c2, ed, gB_v, if_pos p00, gB_v, wd_i, gB_v]
        by_cases c3 : wdS (pkB b n i) = 0
        · obtain ⟨r', e3, f'⟩ := x10_refuse s hc 1
          rw [if_pos c3, if_pos c3, show p_X10_refuse r 1 = _ from e3, gB_v]
          exact cO_l ⟨r', rfl, f'⟩
        · obtain ⟨z1, z2, z6, z7, z8, z0⟩ := wdS_r c3
          have hlt := pkB_lt (b := b) (n := n) (i := i) (fun q => by rw [q] at z0; exact absurd z0 (by decide))
          obtain ⟨r', e3, f'⟩ := x0_emit s (aCS_3 s hc (i + 1)) (by omega) (wdS (pkB b n i))
          rw [if_neg c3, if_neg c3, hc.1, nI_1, gL_b, gL_b, e3, gB_v]
          exact cO_r ⟨r', rfl, f'⟩
end Ac
