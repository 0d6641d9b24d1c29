/-! ===== the reference reads an act ===== -/
def hrB (b : Nat → Int32) (n i : Nat) : Int32 := if i < n then b i else 0
theorem hr_or (b : Nat → Int32) (n i : Nat) : pkB b n i = hrB b n i ∨ (pkB b n i = -1 ∧ hrB b n i = 0) := by
  unfold pkB hrB
  by_cases c : i < n
  · rw [if_pos c, if_pos c]; exact Or.inl rfl
  · rw [if_neg c, if_neg c]; exact Or.inr ⟨rfl, rfl⟩
theorem hr_iff {b : Nat → Int32} {n i : Nat} {c : Int32} (hc : 0 < c.toInt) : hrB b n i = c ↔ pkB b n i = c := by
  rcases hr_or b n i with h | ⟨h1, h2⟩
  · rw [h]
  · rw [h1, h2]
    constructor
    · intro q; rw [← q] at hc; exact absurd hc (by decide)
    · intro q; rw [← q] at hc; exact absurd hc (by decide)
theorem hr_dg (b : Nat → Int32) (n i : Nat) : isDg (hrB b n i) = isDg (pkB b n i) := by
  rcases hr_or b n i with h | ⟨h1, h2⟩
  · rw [h]
  · rw [h1, h2]; decide
theorem hr_wd (b : Nat → Int32) (n i : Nat) : wdS (hrB b n i) = wdS (pkB b n i) := by
  rcases hr_or b n i with h | ⟨h1, h2⟩
  · rw [h]
  · rw [h1, h2]; decide
def vS (M : gIt) : List Int32 → Prop
  | [] => True
  | c :: r => M 169 r.length = c ∧ vS M r
theorem vS_w {M M' : gIt} : ∀ {st : List Int32}, (∀ k, k < st.length → M' 169 k = M 169 k) → vS M st → vS M' st := by
  intro st
  induction st with
  | nil => intro _ _; exact trivial
  | cons c r ih =>
    intro h hv
    rw [List.length_cons] at h
    exact ⟨by rw [h _ (by omega)]; exact hv.1, ih (fun k hk => h k (by omega)) hv.2⟩
def tpS (σ : List Int32) : Int32 := match σ with
  | [] => 0
  | c :: _ => c
theorem bad_v (k p : Nat) : -1000 * nI k - nI p = nI 0 - nI (1000 * k + p) := by
  rw [← nI_add, ← pk_mul]
  show _ = 0 - _
  rw [Int32.zero_sub, Int32.neg_add, ← Int32.neg_mul]
  rfl
theorem bad_neg {k p : Nat} (hk : 1 ≤ k) (hk2 : k ≤ 5) (hp : p ≤ 200) : (-1000 * nI k - nI p).toInt < 0 := by
  rw [bad_v, pk_sub_toInt (by omega) (by omega)]
  omega
def mFr (M0 M : gIt) : Prop := (∀ x, x ≠ 149 → x ≠ 169 → x ≠ 189 → x ≠ 190 → M x = M0 x) ∧ (∀ j, j ≠ 28 → j ≠ 30 → j ≠ 33 → j ≠ 34 → j ≠ 61 → M 149 j = M0 149 j) ∧ ∀ k, k < 100 → M 189 k = M0 189 k ∧ M 190 k = M0 190 k
def mS (M0 : gIt) (i L : Nat) (σ W : List Int32) (M : gIt) : Prop := M 149 28 = nI i ∧ M 149 30 = 0 ∧ M 149 33 = nI L ∧ M 149 34 = nI σ.length ∧ vS M σ ∧ M 149 61 = nI W.length ∧ (∀ k, k < W.length → M 189 (100 + k) = gxc (gtW W k) ∧ M 190 (100 + k) = gxa (gtW W k)) ∧ mFr M0 M
def mSt (b : Nat → Int32) (n : Nat) (M0 : gIt) : Prop := n ≤ 60 ∧ M0 149 29 = nI n ∧ ∀ j, j < n → M0 150 j &&& 255 = b j ∧ 0 ≤ (b j).toInt ∧ (b j).toInt ≤ 255
def mF (M0 : gIt) (k p : Nat) (M : gIt) : Prop := M 149 30 = -1000 * nI k - nI p ∧ (M 149 30).toInt < 0 ∧ (∃ q, q ≤ 200 ∧ M 149 28 = nI q) ∧ mFr M0 M
section Am
variable {b : Nat → Int32} {n : Nat} {M0 : gIt}
theorem x12_hereA (s : mSt b n M0) {i : Nat} (hi : i ≤ 200) {M : gIt} (h28 : M 149 28 = nI i) (hf : mFr M0 M) : p_X12_here M = some (hrB b n i) := by
  obtain ⟨hn, e29, hb⟩ := s
  unfold p_X12_here hrB
  rw [h28, hf.2.1 29 (by decide) (by decide) (by decide) (by decide) (by decide), e29]
  by_cases c : i < n
  · rw [if_neg (nI_ge c (by omega)), gck_t (gin_nI (by omega) (by omega)), nI_clamp (by omega), hf.1 150 (by decide) (by decide) (by decide) (by decide), (hb i c).1, if_pos c]
  · rw [if_pos (nI_le (by omega) (by omega)), if_neg c]
theorem x12_good {M : gIt} (h : M 149 30 = 0) : p_X12_isGood M = some 1 := by unfold p_X12_isGood; rw [if_pos h]
theorem x12_nogood {M : gIt} (h : (M 149 30).toInt < 0) : p_X12_isGood M = some 0 := by unfold p_X12_isGood; rw [if_neg (fun q => by rw [q] at h; exact absurd h (by decide))]
theorem x12_sees (s : mSt b n M0) {i : Nat} (hi : i ≤ 200) {M : gIt} (h28 : M 149 28 = nI i) (hf : mFr M0 M) : p_X12_seesDigit M = some (if isDg (pkB b n i) then 1 else 0) := by
  unfold p_X12_seesDigit
  rw [x12_hereA s hi h28 hf, gB_v, x12_lies, gB_v, i32_toInt64, gck_t (gbo_ite _), ← hr_dg]
  unfold isDg
  by_cases c : 48 ≤ (hrB b n i).toInt ∧ (hrB b n i).toInt ≤ 57
  · rw [decide_eq_true c, if_pos (by simp only [Int64.reduceToInt]; exact c)]; rfl
  · rw [decide_eq_false c, if_neg (by simp only [Int64.reduceToInt]; exact c)]; rfl
theorem x12_wrong {i L : Nat} {σ W : List Int32} {M : gIt} (h : mS M0 i L σ W M) {k : Nat} (hk : 1 ≤ k) (hk2 : k ≤ 5) (hi : i ≤ 200) : ∃ M', p_X12_wrongs M (nI k) (M 149 28) = some M' ∧ mF M0 k i M' ∧ M' 149 28 = nI i ∧ M' 149 33 = nI L ∧ M' 149 34 = nI σ.length := by
  obtain ⟨h1, h2, h3, h4, h5, h6, h7, f1, f2, f3⟩ := h
  unfold p_X12_wrongs
  rw [h2, if_pos (by decide), h1, gL_b, gL_b]
  refine ⟨_, rfl, ⟨by rw [gu_sl, if_pos rfl], by rw [gu_sl, if_pos rfl]; exact bad_neg hk hk2 hi, ⟨i, hi, by rw [gu_sl, if_neg (by decide)]; exact h1⟩, fun x q1 q2 q3 q4 => by rw [gu2_ne q1]; exact f1 x q1 q2 q3 q4, fun j q1 q2 q3 q4 q5 => by rw [gu_sl, if_neg q2]; exact f2 j q1 q2 q3 q4 q5, fun k hk => by rw [gu_rd (by decide), gu_rd (by decide)]; exact f3 k hk⟩, by rw [gu_sl, if_neg (by decide)]; exact h1, by rw [gu_sl, if_neg (by decide)]; exact h3, by rw [gu_sl, if_neg (by decide)]; exact h4⟩
theorem mS_28 {i L : Nat} {σ W : List Int32} {M : gIt} (h : mS M0 i L σ W M) (j : Nat) : mS M0 j L σ W (gu2 M 149 28 (nI j)) := by
  obtain ⟨h1, h2, h3, h4, h5, h6, h7, f1, f2, f3⟩ := h
  exact ⟨by rw [gu_sl, if_pos rfl], by rw [gu_sl, if_neg (by decide)]; exact h2, by rw [gu_sl, if_neg (by decide)]; exact h3, by rw [gu_sl, if_neg (by decide)]; exact h4, vS_w (fun k _ => by rw [gu_rd (by decide)]) h5, by rw [gu_sl, if_neg (by decide)]; exact h6, fun k hk => by rw [gu_rd (by decide), gu_rd (by decide)]; exact h7 k hk, fun x q1 q2 q3 q4 => by rw [gu2_ne q1]; exact f1 x q1 q2 q3 q4, fun j q1 q2 q3 q4 q5 => by rw [gu_sl, if_neg q1]; exact f2 j q1 q2 q3 q4 q5, fun k hk => by rw [gu_rd (by decide), gu_rd (by decide)]; exact f3 k hk⟩
theorem mS_33 {i L : Nat} {σ W : List Int32} {M : gIt} (h : mS M0 i L σ W M) (j : Nat) : mS M0 i j σ W (gu2 M 149 33 (nI j)) := by
  obtain ⟨h1, h2, h3, h4, h5, h6, h7, f1, f2, f3⟩ := h
  exact ⟨by rw [gu_sl, if_neg (by decide)]; exact h1, by rw [gu_sl, if_neg (by decide)]; exact h2, by rw [gu_sl, if_pos rfl], by rw [gu_sl, if_neg (by decide)]; exact h4, vS_w (fun k _ => by rw [gu_rd (by decide)]) h5, by rw [gu_sl, if_neg (by decide)]; exact h6, fun k hk => by rw [gu_rd (by decide), gu_rd (by decide)]; exact h7 k hk, fun x q1 q2 q3 q4 => by rw [gu2_ne q1]; exact f1 x q1 q2 q3 q4, fun j q1 q2 q3 q4 q5 => by rw [gu_sl, if_neg q3]; exact f2 j q1 q2 q3 q4 q5, fun k hk => by rw [gu_rd (by decide), gu_rd (by decide)]; exact f3 k hk⟩
theorem mS_pop {i L : Nat} {c : Int32} {σ W : List Int32} {M : gIt} (h : mS M0 i L (c :: σ) W M) : M 149 34 - 1 = nI σ.length ∧ mS M0 i L σ W (gu2 M 149 34 (nI σ.length)) := by
  obtain ⟨h1, h2, h3, h4, h5, h6, h7, f1, f2, f3⟩ := h
  refine ⟨by rw [h4, List.length_cons, nI_back], by rw [gu_sl, if_neg (by decide)]; exact h1, by rw [gu_sl, if_neg (by decide)]; exact h2, by rw [gu_sl, if_neg (by decide)]; exact h3, by rw [gu_sl, if_pos rfl], vS_w (fun k _ => by rw [gu_rd (by decide)]) h5.2, by rw [gu_sl, if_neg (by decide)]; exact h6, fun k hk => by rw [gu_rd (by decide), gu_rd (by decide)]; exact h7 k hk, fun x q1 q2 q3 q4 => by rw [gu2_ne q1]; exact f1 x q1 q2 q3 q4, fun j q1 q2 q3 q4 q5 => by rw [gu_sl, if_neg q4]; exact f2 j q1 q2 q3 q4 q5, fun k hk => by rw [gu_rd (by decide), gu_rd (by decide)]; exact f3 k hk⟩
theorem x12_top {i L : Nat} {σ W : List Int32} {M : gIt} (h : mS M0 i L σ W M) (hσ : σ.length ≤ 100) : p_X12_top M = some (tpS σ) := by
  obtain ⟨h1, h2, h3, h4, h5, -⟩ := h
  unfold p_X12_top
  rw [h4]
  match σ, h5, hσ with
  | [], _, _ => rw [if_pos (by decide)]; rfl
  | c :: r, h5, hσ =>
    rw [List.length_cons] at hσ ⊢
    rw [if_neg (nI_nle (by omega) (by omega)), nI_back, gck_t (gin_nI (by omega) (by omega)), nI_clamp (by omega), h5.1]
    rfl
theorem x12_says {i L : Nat} {σ W : List Int32} {M : gIt} (h : mS M0 i L σ W M) (hW : W.length < 100) (w c1 c2 : Int32) (e1 : c1 = gxc w) (e2 : c2 = gxa w) : ∃ M', p_X12_says M c1 c2 = some M' ∧ mS M0 i L σ (W ++ [w]) M' := by
  obtain ⟨h1, h2, h3, h4, h5, h6, h7, f1, f2, f3⟩ := h
  unfold p_X12_says
  have e100 : (100 : Int32) + nI W.length = nI (100 + W.length) := nI_add 100 _
  rw [x12_good h2, gB_v, if_neg n10, h6, e100, gck_t (gin_nI (by omega) (by omega)), gL_b, gu_rd (by decide), h6, e100, gck_t (gin_nI (by omega) (by omega)), gL_b, nI_clamp (by omega), gu_rd (by decide), gu_rd (by decide), h6, nI_1, gL_b, gL_b]
  have e189 : ∀ k, gu2 (gu2 (gu2 M 189 (100 + W.length) c1) 190 (100 + W.length) c2) 149 61 (nI (W.length + 1)) 189 k = if k = 100 + W.length then c1 else M 189 k := fun k => by rw [gu_rd (by decide), gu_rd (by decide), gu_sl]
  have e190 : ∀ k, gu2 (gu2 (gu2 M 189 (100 + W.length) c1) 190 (100 + W.length) c2) 149 61 (nI (W.length + 1)) 190 k = if k = 100 + W.length then c2 else M 190 k := fun k => by rw [gu_rd (by decide), gu_sl, gu_rd (by decide)]
  refine ⟨_, rfl, by rw [gu_sl, if_neg (by decide), gu_rd (by decide), gu_rd (by decide)]; exact h1, by rw [gu_sl, if_neg (by decide), gu_rd (by decide), gu_rd (by decide)]; exact h2, by rw [gu_sl, if_neg (by decide), gu_rd (by decide), gu_rd (by decide)]; exact h3, by rw [gu_sl, if_neg (by decide), gu_rd (by decide), gu_rd (by decide)]; exact h4, vS_w (fun k _ => by rw [gu_rd (by decide), gu_rd (by decide), gu_rd (by decide)]) h5, by rw [gu_sl, if_pos rfl, List.length_append]; rfl, fun k hk => ?_, fun x q1 q2 q3 q4 => by rw [gu2_ne q1, gu2_ne q4, gu2_ne q3]; exact f1 x q1 q2 q3 q4, fun j q1 q2 q3 q4 q5 => by rw [gu_sl, if_neg q5, gu_rd (by decide), gu_rd (by decide)]; exact f2 j q1 q2 q3 q4 q5, fun k hk => ?_⟩
  · rw [List.length_append] at hk
    have hk1 : k < W.length + 1 := hk
    rw [e189, e190]
    by_cases e : k = W.length
    · rw [e, if_pos rfl, if_pos rfl, gtW_r]; exact ⟨e1, e2⟩
    · rw [if_neg (by omega), gtW_l (by omega), if_neg (by omega)]
      exact h7 k (by omega)
  · rw [e189, e190, if_neg (by omega), if_neg (by omega)]
    exact f3 k hk
theorem x12_saysB {M : gIt} (h : (M 149 30).toInt < 0) (c1 c2 : Int32) : p_X12_says M c1 c2 = some M := by
  unfold p_X12_says
  rw [x12_nogood h, gB_v, if_pos p00]
theorem x12_puts {i L : Nat} {σ W : List Int32} {M : gIt} (h : mS M0 i L σ W M) (hσ : σ.length < 120) (c : Int32) : ∃ M', p_X12_puts M c = some M' ∧ mS M0 (i + 1) L (c :: σ) W M' := by
  obtain ⟨h1, h2, h3, h4, h5, h6, h7, f1, f2, f3⟩ := h
  unfold p_X12_puts
  rw [h4, gck_t (gin_nI (by omega) (by omega)), gL_b, gu_rd (by decide), h4, nI_1, gL_b, gL_b, gu_sl, if_neg (by decide), gu_rd (by decide), h1, nI_1, gL_b, gL_b, nI_clamp (by omega)]
  refine ⟨_, rfl, by rw [gu_sl, if_pos rfl], by rw [gu_sl, if_neg (by decide), gu_sl, if_neg (by decide), gu_rd (by decide)]; exact h2, by rw [gu_sl, if_neg (by decide), gu_sl, if_neg (by decide), gu_rd (by decide)]; exact h3, by rw [gu_sl, if_neg (by decide), gu_sl, if_pos rfl]; rfl, ⟨by rw [gu_rd (by decide), gu_rd (by decide), gu_sl, if_pos rfl], vS_w (fun k hk => by rw [gu_rd (by decide), gu_rd (by decide), gu_sl, if_neg (by omega)]) h5⟩, by rw [gu_sl, if_neg (by decide), gu_sl, if_neg (by decide), gu_rd (by decide)]; exact h6, fun k hk => by rw [gu_rd (by decide), gu_rd (by decide), gu_rd (by decide), gu_rd (by decide), gu_rd (by decide), gu_rd (by decide)]; exact h7 k hk, fun x q1 q2 q3 q4 => by rw [gu2_ne q1, gu2_ne q1, gu2_ne q2]; exact f1 x q1 q2 q3 q4, fun j q1 q2 q3 q4 q5 => by rw [gu_sl, if_neg q1, gu_sl, if_neg q4, gu_rd (by decide)]; exact f2 j q1 q2 q3 q4 q5, fun k hk => by rw [gu_rd (by decide), gu_rd (by decide), gu_rd (by decide), gu_rd (by decide), gu_rd (by decide), gu_rd (by decide)]; exact f3 k hk⟩
def opw (c : Int32) : Int32 := if c = 42 then -8 else if c = 43 then -6 else -7
def isOp (c : Int32) : Prop := c = 42 ∨ c = 43 ∨ c = 45
theorem opw_x {c : Int32} (h : isOp c) : gxc (opw c) = c ∧ gxa (opw c) = 0 := by
  rcases h with h | h | h <;> rw [h] <;> decide
/-- the waiting signs are said -/
theorem x12_sums {i L : Nat} {σ : List Int32} (all : Int32) (hσ : all = 0 ∨ all = 1) (htp : if all = 0 then ¬ tpS σ = 42 else ¬ isOp (tpS σ)) : ∀ (π W : List Int32) (M : gIt) (f : Nat), (∀ c, c ∈ π → if all = 0 then c = 42 else isOp c) → (π ++ σ).length ≤ 100 → W.length + π.length ≤ 100 → π.length < f → mS M0 i L (π ++ σ) W M → ∃ M', p_X12_sums_0 all f M = some M' ∧ mS M0 i L σ (W ++ π.map opw) M' := by
  intro π
  induction π with
  | nil =>
    intro W M f _ hl _ hf h
    obtain ⟨f, rfl⟩ : ∃ q, f = q + 1 := ⟨f - 1, by omega⟩
    rw [List.nil_append] at h hl
    refine ⟨M, ?_, by rw [List.map_nil, List.append_nil]; exact h⟩
    unfold p_X12_sums_0
    rw [x12_top h hl, gB_v]
    rcases hσ with rfl | rfl
    · rw [if_pos p00] at htp
      rw [if_neg htp, if_pos p00]
    · rw [if_neg n10] at htp
      rw [if_neg (fun q => htp (Or.inl q)), if_neg n10, gB_v, if_neg (fun q => htp (Or.inr (Or.inl q))), gB_v, if_neg (fun q => htp (Or.inr (Or.inr q)))]
  | cons c r ih =>
    intro W M f hc hl hW hf h
    obtain ⟨f, rfl⟩ : ∃ q, f = q + 1 := ⟨f - 1, by omega⟩
    have hop : isOp c := by
      have := hc c List.mem_cons_self
      rcases hσ with q | q
      · rw [q, if_pos p00] at this; exact Or.inl this
      · rw [q, if_neg n10] at this; exact this
    rw [List.length_cons] at hW hf
    rw [List.cons_append] at h hl
    rw [List.length_cons] at hl
    obtain ⟨ox1, ox2⟩ := opw_x hop
    obtain ⟨M1, e1, c1⟩ := x12_says h (by omega) (opw c) c 0 ox1.symm ox2.symm
    obtain ⟨e2, c2⟩ := mS_pop c1
    obtain ⟨M3, e3, c3⟩ := ih (W ++ [opw c]) _ f (fun x hx => hc x (List.mem_cons_of_mem _ hx)) (by omega) (by rw [List.length_append, List.length_singleton]; omega) (by omega) c2
    refine ⟨M3, ?_, by rw [List.map_cons]; rw [List.append_assoc] at c3; exact c3⟩
    unfold p_X12_sums_0
    have tp : tpS (c :: (r ++ σ)) = c := rfl
    rw [x12_top h (by rw [List.length_cons]; omega), gB_v, tp]
    simp only [gB_v, gL_b, e1, e2]
    rcases hop with q | q | q
    · rw [if_pos q]; exact e3
    · have ha : all = 1 := by
        rcases hσ with z | z
        · have := hc c List.mem_cons_self
          rw [z, if_pos p00, q] at this
          exact absurd this (by decide)
        · exact z
      rw [if_neg (by rw [q]; decide), ha, if_neg n10, if_pos q, ← ha]; exact e3
    · have ha : all = 1 := by
        rcases hσ with z | z
        · have := hc c List.mem_cons_self
          rw [z, if_pos p00, q] at this
          exact absurd this (by decide)
        · exact z
      rw [if_neg (by rw [q]; decide), ha, if_neg n10, if_neg (by rw [q]; decide), if_pos q, ← ha]; exact e3
/-! the loop, a turn at a time -/
theorem ex_bad {M : gIt} (h : (M 149 30).toInt < 0) (f : Nat) (x1 x2 : Int32) : p_X12_expression_14 (f + 1) M x1 x2 = some M := by
  unfold p_X12_expression_14
  rw [x12_nogood h, gB_v, if_pos p00]
theorem ex_0 {M : gIt} (h : M 149 30 = 0) (f : Nat) (x1 : Int32) : p_X12_expression_14 (f + 1) M x1 0 = some M := by
  unfold p_X12_expression_14
  rw [x12_good h, gB_v, if_neg n10, if_pos p00]
theorem ex_w {M : gIt} {c : Int32} (h : M 149 30 = 0) (hr : p_X12_here M = some c) (f : Nat) : p_X12_expression_14 (f + 1) M 1 1 = if c = 40 then (gB (p_X12_opens M) fun r => p_X12_expression_14 f r 1 1) else gB (p_X12_seesDigit M) fun r131 => if r131 = 0 then gB (p_X12_isValue c) fun r134 => gB (α := gIt) (if r134 = 0 then gB (p_X12_wrongs M (1 : Int32) (M 149 28)) fun r145 => some r145 else some M) fun ph136 => gB (p_X12_says ph136 (2 : Int32) c) fun r140 => gL (((r140 149 28) + (1 : Int32))) fun z142 => gL (gu2 r140 149 28 z142) fun I143 => p_X12_expression_14 f I143 (0 : Int32) 1 else gB (p_X12_digits M) fun r147 => p_X12_expression_14 f r147 (0 : Int32) 1 := by
  conv => lhs; unfold p_X12_expression_14
  rw [x12_good h, gB_v, if_neg n10, if_neg n10, hr, gB_v, if_neg n10, if_neg n10]
theorem ex_n {M : gIt} {c : Int32} (h : M 149 30 = 0) (hr : p_X12_here M = some c) (f : Nat) : p_X12_expression_14 (f + 1) M 0 1 = if c = 42 then (gB (p_X12_sums M 0) fun r => gB (p_X12_puts r c) fun r => p_X12_expression_14 f r 1 1) else if c = 43 ∨ c = 45 then (gB (p_X12_sums M 1) fun r => gB (p_X12_puts r c) fun r => p_X12_expression_14 f r 1 1) else if c = 41 ∧ ¬ M 149 33 ≤ 0 then (gB (p_X12_sums M (1 : Int32)) fun r44 => gL (((r44 149 34) - (1 : Int32))) fun z46 => gL (gu2 r44 149 34 z46) fun I47 => gL (((I47 149 33) - (1 : Int32))) fun z48 => gL (gu2 I47 149 33 z48) fun I49 => gL (((I49 149 28) + (1 : Int32))) fun z50 => gL (gu2 I49 149 28 z50) fun I51 => p_X12_expression_14 f I51 0 1) else (gB (p_X12_sums M (1 : Int32)) fun r33 => if (r33 149 33) ≤ 0 then p_X12_expression_14 f r33 0 (0 : Int32) else gB (p_X12_wrongs r33 (1 : Int32) (r33 149 28)) fun r36 => p_X12_expression_14 f r36 0 (0 : Int32)) := by
  conv => lhs; unfold p_X12_expression_14
  rw [x12_good h, gB_v, if_neg n10, if_neg n10, hr, gB_v, if_pos p00, if_pos p00]
  by_cases c1 : c = 42
  · rw [if_pos c1, if_pos c1, if_pos c1, gB_v]
  · simp only [if_neg c1, gB_v]
    by_cases c2 : c = 43
    · rw [if_pos c2, if_pos (Or.inl c2)]
    · rw [if_neg c2]
      by_cases c3 : c = 45
      · rw [if_pos c3, if_pos (Or.inr c3)]
      · have c23 : ¬ (c = 43 ∨ c = 45) := fun q => by
          rcases q with q | q
          · exact c2 q
          · exact c3 q
        rw [if_neg c3, if_neg c23]
        by_cases c4 : c = 41
        · rw [if_pos c4]
          by_cases c5 : M 149 33 ≤ 0
          · rw [if_pos c5, if_neg (fun q => q.2 c5)]
          · rw [if_neg c5, if_pos ⟨c4, c5⟩]
        · rw [if_neg c4, if_neg (fun q => c4 q.1)]
def stp (M : gIt) (x1 : Int32) (M' : gIt) (x1' : Int32) (m : Nat) : Prop := ∃ k, k ≤ m ∧ ∀ f, p_X12_expression_14 (f + k) M x1 1 = p_X12_expression_14 f M' x1' 1
theorem stp_tr {A B C : gIt} {x y z : Int32} {m m' : Nat} (h : stp A x B y m) (h' : stp B y C z m') : stp A x C z (m + m') := by
  obtain ⟨k, hk, e⟩ := h
  obtain ⟨k', hk', e'⟩ := h'
  refine ⟨k' + k, by omega, fun f => ?_⟩
  rw [← Nat.add_assoc, e, e']
theorem stp_le {A B : gIt} {x y : Int32} {m m' : Nat} (h : stp A x B y m) (hm : m ≤ m') : stp A x B y m' := by
  obtain ⟨k, hk, e⟩ := h
  exact ⟨k, by omega, e⟩
def stF (M0 M : gIt) (x1 : Int32) (k p m : Nat) : Prop := ∃ q M', q ≤ m ∧ mF M0 k p M' ∧ ∀ f, p_X12_expression_14 (f + q) M x1 1 = some M'
theorem stF_tr {A B : gIt} {x y : Int32} {m m' k p : Nat} (h : stp A x B y m) (h' : stF M0 B y k p m') : stF M0 A x k p (m + m') := by
  obtain ⟨q, hq, e⟩ := h
  obtain ⟨q', M', hq', hf, e'⟩ := h'
  refine ⟨q' + q, M', by omega, hf, fun f => ?_⟩
  rw [← Nat.add_assoc, e, e']
theorem stF_le {A : gIt} {x : Int32} {m m' k p : Nat} (h : stF M0 A x k p m) (hm : m ≤ m') : stF M0 A x k p m' := by
  obtain ⟨q, M', hq, hf, e⟩ := h
  exact ⟨q, M', by omega, hf, e⟩
end Am
