/-! ===== the reference reads a settlement's conditions ===== -/
def cFr (s : Nat) (M0 M : gIt) : Prop := (∀ x, x ≠ 149 → x ≠ 169 → x ≠ 167 → x ≠ 168 → M x = M0 x) ∧ (∀ j, j ≠ 28 → j ≠ 30 → j ≠ 33 → j ≠ 34 → j ≠ 32 → M 149 j = M0 149 j) ∧ ∀ k, k < 100 * s → M 167 k = M0 167 k ∧ M 168 k = M0 168 k
def qS (s : Nat) (M0 : gIt) (i L : Nat) (σ W : List Int32) (M : gIt) : Prop := M 149 28 = nI i ∧ M 149 30 = 0 ∧ M 149 33 = nI L ∧ M 149 34 = nI σ.length ∧ vS M σ ∧ M 149 32 = nI W.length ∧ (∀ k, k < W.length → M 167 (100 * s + k) = gmc (gtW W k) ∧ M 168 (100 * s + k) = gma (gtW W k)) ∧ cFr s M0 M
/-- the tape, and whose settlement -/
def rB (b : Nat → Int32) (n T : Nat) (M : gIt) : Prop := n ≤ 100 ∧ M 149 29 = nI n ∧ (∀ j, j < n → M 150 j &&& 255 = b j ∧ 0 ≤ (b j).toInt ∧ (b j).toInt ≤ 255) ∧ M 149 35 = nI T ∧ T < 16
def qSt (b : Nat → Int32) (n T s : Nat) (M0 : gIt) : Prop := rB b n T M0 ∧ s < 10 ∧ M0 149 4 = nI s
def qB (s : Nat) (M0 : gIt) (i : Nat) (σ : List Int32) (k p : Nat) (M : gIt) : Prop := M 149 28 = nI i ∧ M 149 30 = -1000 * nI k - nI p ∧ (M 149 30).toInt < 0 ∧ M 149 34 = nI σ.length ∧ vS M σ ∧ cFr s M0 M
def qF (s : Nat) (M0 : gIt) (k p : Nat) (M : gIt) : Prop := ∃ i σ, i ≤ 200 ∧ σ.length ≤ 110 ∧ qB s M0 i σ k p M
theorem rB_w {b : Nat → Int32} {n T : Nat} {M : gIt} (h : rB b n T M) {j : Nat} (h1 : j ≠ 29) (h2 : j ≠ 35) (v : Int32) : rB b n T (gu2 M 149 j v) := ⟨h.1, by rw [gu_sl, if_neg (Ne.symm h1)]; exact h.2.1, fun i hi => by rw [gu_rd (by decide)]; exact h.2.2.1 i hi, by rw [gu_sl, if_neg (Ne.symm h2)]; exact h.2.2.2.1, h.2.2.2.2⟩
theorem rB_c {b : Nat → Int32} {n T s : Nat} {M0 M : gIt} (h : rB b n T M0) (hc : cFr s M0 M) : rB b n T M := ⟨h.1, by rw [hc.2.1 29 (by decide) (by decide) (by decide) (by decide) (by decide)]; exact h.2.1, fun i hi => by rw [hc.1 150 (by decide) (by decide) (by decide) (by decide)]; exact h.2.2.1 i hi, by rw [hc.2.1 35 (by decide) (by decide) (by decide) (by decide) (by decide)]; exact h.2.2.2.1, h.2.2.2.2⟩
section Qb
variable {b : Nat → Int32} {n T : Nat}
theorem q_here {M : gIt} (h : rB b n T M) {i : Nat} (hi : i ≤ 200) (h28 : M 149 28 = nI i) : p_X12_here M = some (hrB b n i) := by
  obtain ⟨hn, e29, hb, -⟩ := h
  unfold p_X12_here hrB
  rw [h28, e29]
  by_cases c : i < n
  · rw [if_neg (nI_ge c (by omega)), gck_t (gin_nI (by omega) (by omega)), nI_clamp (by omega), (hb i c).1, if_pos c]
  · rw [if_pos (nI_le (by omega) (by omega)), if_neg c]
theorem q_sees {M : gIt} (h : rB b n T M) {i : Nat} (hi : i ≤ 200) (h28 : M 149 28 = nI i) : p_X12_seesDigit M = some (if isDg (pkB b n i) then 1 else 0) := by
  unfold p_X12_seesDigit
  rw [q_here h hi h28, gB_v, x12_lies, gB_v, i32_toInt64, gck_t (gbo_ite _), ← hr_dg]
  unfold isDg
  by_cases c : 48 ≤ (hrB b n i).toInt ∧ (hrB b n i).toInt ≤ 57
  · rw [decide_eq_true c, if_pos (by simp only [Int64.reduceToInt]; exact c)]; rfl
  · rw [decide_eq_false c, if_neg (by simp only [Int64.reduceToInt]; exact c)]; rfl
theorem hr_lt (b : Nat → Int32) (n i : Nat) : isLt (hrB b n i) = isLt (pkB b n i) := by
  rcases hr_or b n i with h | ⟨h1, h2⟩
  · rw [h]
  · rw [h1, h2]; decide
theorem q_letter (b : Nat → Int32) (n i : Nat) : p_X12_isLetter (hrB b n i) = some (if isLt (pkB b n i) then 1 else 0) := by
  unfold p_X12_isLetter
  rw [x12_lies, gB_v, i32_toInt64, gck_t (gbo_ite _), ← hr_lt]
  unfold isLt
  by_cases c : 97 ≤ (hrB b n i).toInt ∧ (hrB b n i).toInt ≤ 112
  · rw [decide_eq_true c, if_pos (by simp only [Int64.reduceToInt]; exact c)]; rfl
  · rw [decide_eq_false c, if_neg (by simp only [Int64.reduceToInt]; exact c)]; rfl
theorem q_ltr {i : Nat} (h : isLt (pkB b n i) = true) : hrB b n i = nI (97 + ltO (pkB b n i)) ∧ hrB b n i - 97 = nI (ltO (pkB b n i)) := by
  obtain ⟨z1, z2, z3⟩ := isLt_lt h
  have e : hrB b n i = pkB b n i := by unfold hrB pkB; rw [if_pos z1, if_pos z1]
  rw [e]
  refine ⟨z3, ?_⟩
  conv => lhs; rw [z3]
  rw [show nI (97 + ltO (pkB b n i)) - (97 : Int32) = nI (97 + ltO (pkB b n i) - 97) from pk_sub (b := 97) (by omega), Nat.add_sub_cancel_left]
theorem q_wrong0 {M : gIt} (h30 : M 149 30 = 0) (k : Int32) : p_X12_wrongs M k (M 149 28) = some (gu2 M 149 30 (-1000 * k - M 149 28)) := by
  unfold p_X12_wrongs
  rw [h30, if_pos (by decide), gL_b, gL_b]
theorem q_wrongB {M : gIt} (h30 : (M 149 30).toInt < 0) (k p : Int32) : p_X12_wrongs M k p = some (gu2 M 149 30 (M 149 30)) := by
  unfold p_X12_wrongs
  rw [if_neg (by rw [Int32.le_iff_toInt_le]; simp only [Int32.reduceToInt]; omega), gL_b, gL_b]
/-- a person, told by a letter -/
theorem q_who {M : gIt} (h : rB b n T M) {i : Nat} (h28 : M 149 28 = nI i) (h30 : M 149 30 = 0) (hl : isLt (pkB b n i) = true) : p_X12_who M = some (nI (ltO (pkB b n i)), if ltO (pkB b n i) = T then gu2 (gu2 M 149 30 (-1000 * nI 2 - nI i)) 149 28 (nI (i + 1)) else gu2 M 149 28 (nI (i + 1))) := by
  obtain ⟨z1, z2, z3⟩ := isLt_lt hl
  have hn := h.1
  have hT := h.2.2.2.2
  unfold p_X12_who
  rw [q_here h (by omega) h28, gB_v, (q_ltr hl).2, gL_b, h.2.2.2.1]
  by_cases c : ltO (pkB b n i) = T
  · rw [if_pos (by rw [c]), if_pos c, q_wrong0 h30, gB_v, gB_v, gu_sl, if_neg (by decide), h28, nI_1, gL_b, gL_b]
    rfl
  · rw [if_neg (fun q => c ((nI_eq (by omega) (by omega)).mp q)), if_neg c, gB_v, h28, nI_1, gL_b, gL_b]
/-- the children of a person -/
theorem q_whose {M : gIt} (h : rB b n T M) {i : Nat} (hi : i < n) (h28 : M 149 28 = nI i) (h30 : M 149 30 = 0) : ∃ v, p_X12_whose M = some (v, if isLt (pkB b n (i + 1)) then gu2 (gu2 M 149 28 (nI (i + 1))) 149 28 (nI (i + 2)) else gu2 (gu2 (gu2 M 149 28 (nI (i + 1))) 149 30 (-1000 * nI 1 - nI (i + 1))) 149 28 (nI (i + 2))) ∧ (isLt (pkB b n (i + 1)) = true → v = nI (ltO (pkB b n (i + 1)))) := by
  have hn := h.1
  have hr1 := rB_w h (j := 28) (by decide) (by decide) (nI (i + 1))
  have m28 : gu2 M 149 28 (nI (i + 1)) 149 28 = nI (i + 1) := by rw [gu_sl, if_pos rfl]
  have m30 : gu2 M 149 28 (nI (i + 1)) 149 30 = 0 := by rw [gu_sl, if_neg (by decide)]; exact h30
  unfold p_X12_whose
  rw [h28, nI_1, gL_b, gL_b, q_here hr1 (by omega) m28, gB_v, q_letter, gB_v]
  by_cases c : isLt (pkB b n (i + 1)) = true
  · obtain ⟨z1, z2, z3⟩ := isLt_lt c
    rw [if_pos c, if_neg n10, if_pos c, gB_v, m28, nI_1, gL_b, gL_b, gu_sl, if_pos rfl, show i + 1 + 1 = (i + 1) + 1 from rfl, nI_back]
    unfold p_X12_signAt
    have hr2 := rB_w hr1 (j := 28) (by decide) (by decide) (nI (i + 1 + 1))
    rw [hr2.2.1, if_neg (nI_ge z1 (by omega)), gck_t (gin_nI (by omega) (by omega)), nI_clamp (by omega), (hr2.2.2.1 (i + 1) z1).1, gB_v]
    refine ⟨_, rfl, fun _ => ?_⟩
    have := (q_ltr c).2
    unfold hrB at this
    rw [if_pos z1] at this
    exact this
  · rw [if_neg c, if_pos p00, if_neg c, q_wrong0 m30, gB_v, gB_v, gu_sl, if_neg (by decide), m28, nI_1, gL_b, gL_b, gu_sl, if_pos rfl, show i + 1 + 1 = (i + 1) + 1 from rfl, nI_back]
    have hr2 := rB_w (rB_w hr1 (j := 30) (by decide) (by decide) (-1000 * 1 - nI (i + 1))) (j := 28) (by decide) (by decide) (nI (i + 1 + 1))
    unfold p_X12_signAt
    rw [hr2.2.1]
    by_cases d : i + 1 < n
    · rw [if_neg (nI_ge d (by omega)), gck_t (gin_nI (by omega) (by omega)), gB_v]
      exact ⟨_, rfl, fun q => absurd q c⟩
    · rw [if_pos (nI_le (by omega) (by omega)), gB_v]
      exact ⟨_, rfl, fun q => absurd q c⟩
end Qb
section Qm
variable {M0 : gIt}
theorem qS_28 {s i L : Nat} {σ W : List Int32} {M : gIt} (h : qS s M0 i L σ W M) (j : Nat) : qS s M0 j L σ W (gu2 M 149 28 (nI j)) := by
  obtain ⟨h1, h2, h3, h4, h5, h6, h7, f1, f2, f3⟩ := h
  exact ⟨by rw [gu_sl, if_pos rfl], by rw [gu_sl, if_neg (by decide)]; exact h2, by rw [gu_sl, if_neg (by decide)]; exact h3, by rw [gu_sl, if_neg (by decide)]; exact h4, vS_w (fun k _ => by rw [gu_rd (by decide)]) h5, by rw [gu_sl, if_neg (by decide)]; exact h6, fun k hk => by rw [gu_rd (by decide), gu_rd (by decide)]; exact h7 k hk, fun x q1 q2 q3 q4 => by rw [gu2_ne q1]; exact f1 x q1 q2 q3 q4, fun j q1 q2 q3 q4 q5 => by rw [gu_sl, if_neg q1]; exact f2 j q1 q2 q3 q4 q5, fun k hk => by rw [gu_rd (by decide), gu_rd (by decide)]; exact f3 k hk⟩
theorem qS_33 {s i L : Nat} {σ W : List Int32} {M : gIt} (h : qS s M0 i L σ W M) (j : Nat) : qS s M0 i j σ W (gu2 M 149 33 (nI j)) := by
  obtain ⟨h1, h2, h3, h4, h5, h6, h7, f1, f2, f3⟩ := h
  exact ⟨by rw [gu_sl, if_neg (by decide)]; exact h1, by rw [gu_sl, if_neg (by decide)]; exact h2, by rw [gu_sl, if_pos rfl], by rw [gu_sl, if_neg (by decide)]; exact h4, vS_w (fun k _ => by rw [gu_rd (by decide)]) h5, by rw [gu_sl, if_neg (by decide)]; exact h6, fun k hk => by rw [gu_rd (by decide), gu_rd (by decide)]; exact h7 k hk, fun x q1 q2 q3 q4 => by rw [gu2_ne q1]; exact f1 x q1 q2 q3 q4, fun j q1 q2 q3 q4 q5 => by rw [gu_sl, if_neg q3]; exact f2 j q1 q2 q3 q4 q5, fun k hk => by rw [gu_rd (by decide), gu_rd (by decide)]; exact f3 k hk⟩
theorem qS_pop {s i L : Nat} {c : Int32} {σ W : List Int32} {M : gIt} (h : qS s M0 i L (c :: σ) W M) : M 149 34 - 1 = nI σ.length ∧ qS s M0 i L σ W (gu2 M 149 34 (nI σ.length)) := by
  obtain ⟨h1, h2, h3, h4, h5, h6, h7, f1, f2, f3⟩ := h
  refine ⟨by rw [h4, List.length_cons, nI_back], by rw [gu_sl, if_neg (by decide)]; exact h1, by rw [gu_sl, if_neg (by decide)]; exact h2, by rw [gu_sl, if_neg (by decide)]; exact h3, by rw [gu_sl, if_pos rfl], vS_w (fun k _ => by rw [gu_rd (by decide)]) h5.2, by rw [gu_sl, if_neg (by decide)]; exact h6, fun k hk => by rw [gu_rd (by decide), gu_rd (by decide)]; exact h7 k hk, fun x q1 q2 q3 q4 => by rw [gu2_ne q1]; exact f1 x q1 q2 q3 q4, fun j q1 q2 q3 q4 q5 => by rw [gu_sl, if_neg q4]; exact f2 j q1 q2 q3 q4 q5, fun k hk => by rw [gu_rd (by decide), gu_rd (by decide)]; exact f3 k hk⟩
theorem q_top {s i L : Nat} {σ W : List Int32} {M : gIt} (h : qS s M0 i L σ W M) (hσ : σ.length ≤ 110) : p_X12_top M = some (tpS σ) := by
  obtain ⟨h1, h2, h3, h4, h5, -⟩ := h
  unfold p_X12_top
  rw [h4]
  match σ, h5, hσ with
  | [], _, _ => rw [if_pos (by decide)]; rfl
  | c :: r, h5, hσ =>
    rw [List.length_cons] at hσ ⊢
    rw [if_neg (nI_nle (by omega) (by omega)), nI_back, gck_t (gin_nI (by omega) (by omega)), nI_clamp (by omega), h5.1]
    rfl
theorem q_puts {s i L : Nat} {σ W : List Int32} {M : gIt} (h : qS s M0 i L σ W M) (hσ : σ.length < 120) (c : Int32) : ∃ M', p_X12_puts M c = some M' ∧ qS s M0 (i + 1) L (c :: σ) W M' := by
  obtain ⟨h1, h2, h3, h4, h5, h6, h7, f1, f2, f3⟩ := h
  unfold p_X12_puts
  rw [h4, gck_t (gin_nI (by omega) (by omega)), gL_b, gu_rd (by decide), h4, nI_1, gL_b, gL_b, gu_sl, if_neg (by decide), gu_rd (by decide), h1, nI_1, gL_b, gL_b, nI_clamp (by omega)]
  refine ⟨_, rfl, by rw [gu_sl, if_pos rfl], by rw [gu_sl, if_neg (by decide), gu_sl, if_neg (by decide), gu_rd (by decide)]; exact h2, by rw [gu_sl, if_neg (by decide), gu_sl, if_neg (by decide), gu_rd (by decide)]; exact h3, by rw [gu_sl, if_neg (by decide), gu_sl, if_pos rfl]; rfl, ⟨by rw [gu_rd (by decide), gu_rd (by decide), gu_sl, if_pos rfl], vS_w (fun k hk => by rw [gu_rd (by decide), gu_rd (by decide), gu_sl, if_neg (by omega)]) h5⟩, by rw [gu_sl, if_neg (by decide), gu_sl, if_neg (by decide), gu_rd (by decide)]; exact h6, fun k hk => by rw [gu_rd (by decide), gu_rd (by decide), gu_rd (by decide), gu_rd (by decide), gu_rd (by decide), gu_rd (by decide)]; exact h7 k hk, fun x q1 q2 q3 q4 => by rw [gu2_ne q1, gu2_ne q1, gu2_ne q2]; exact f1 x q1 q2 q3 q4, fun j q1 q2 q3 q4 q5 => by rw [gu_sl, if_neg q1, gu_sl, if_neg q4, gu_rd (by decide)]; exact f2 j q1 q2 q3 q4 q5, fun k hk => by rw [gu_rd (by decide), gu_rd (by decide), gu_rd (by decide), gu_rd (by decide), gu_rd (by decide), gu_rd (by decide)]; exact f3 k hk⟩
theorem qS_b {s i L : Nat} {σ W : List Int32} {M : gIt} (h : qS s M0 i L σ W M) {k : Nat} (hk : 1 ≤ k) (hk2 : k ≤ 5) {p : Nat} (hi : p ≤ 200) : qB s M0 i σ k p (gu2 M 149 30 (-1000 * nI k - nI p)) := by
  obtain ⟨h1, h2, h3, h4, h5, h6, h7, f1, f2, f3⟩ := h
  exact ⟨by rw [gu_sl, if_neg (by decide)]; exact h1, by rw [gu_sl, if_pos rfl], by rw [gu_sl, if_pos rfl]; exact bad_neg hk hk2 hi, by rw [gu_sl, if_neg (by decide)]; exact h4, vS_w (fun k _ => by rw [gu_rd (by decide)]) h5, fun x q1 q2 q3 q4 => by rw [gu2_ne q1]; exact f1 x q1 q2 q3 q4, fun j q1 q2 q3 q4 q5 => by rw [gu_sl, if_neg q2]; exact f2 j q1 q2 q3 q4 q5, fun k hk => by rw [gu_rd (by decide), gu_rd (by decide)]; exact f3 k hk⟩
theorem qB_28 {s i : Nat} {σ : List Int32} {k p : Nat} {M : gIt} (h : qB s M0 i σ k p M) (j : Nat) : qB s M0 j σ k p (gu2 M 149 28 (nI j)) := by
  obtain ⟨h1, h2, h3, h4, h5, f1, f2, f3⟩ := h
  exact ⟨by rw [gu_sl, if_pos rfl], by rw [gu_sl, if_neg (by decide)]; exact h2, by rw [gu_sl, if_neg (by decide)]; exact h3, by rw [gu_sl, if_neg (by decide)]; exact h4, vS_w (fun k _ => by rw [gu_rd (by decide)]) h5, fun x q1 q2 q3 q4 => by rw [gu2_ne q1]; exact f1 x q1 q2 q3 q4, fun j q1 q2 q3 q4 q5 => by rw [gu_sl, if_neg q1]; exact f2 j q1 q2 q3 q4 q5, fun k hk => by rw [gu_rd (by decide), gu_rd (by decide)]; exact f3 k hk⟩
theorem qB_30 {s i : Nat} {σ : List Int32} {k p : Nat} {M : gIt} (h : qB s M0 i σ k p M) : qB s M0 i σ k p (gu2 M 149 30 (M 149 30)) := by
  obtain ⟨h1, h2, h3, h4, h5, f1, f2, f3⟩ := h
  exact ⟨by rw [gu_sl, if_neg (by decide)]; exact h1, by rw [gu_sl, if_pos rfl]; exact h2, by rw [gu_sl, if_pos rfl]; exact h3, by rw [gu_sl, if_neg (by decide)]; exact h4, vS_w (fun k _ => by rw [gu_rd (by decide)]) h5, fun x q1 q2 q3 q4 => by rw [gu2_ne q1]; exact f1 x q1 q2 q3 q4, fun j q1 q2 q3 q4 q5 => by rw [gu_sl, if_neg q2]; exact f2 j q1 q2 q3 q4 q5, fun k hk => by rw [gu_rd (by decide), gu_rd (by decide)]; exact f3 k hk⟩
theorem q_emitB {M : gIt} (h : (M 149 30).toInt < 0) (c1 c2 : Int32) : p_X12_emit M c1 c2 = some M := by
  unfold p_X12_emit
  rw [x12_nogood h, gB_v, if_pos p00]
theorem q_emit {b : Nat → Int32} {n T s : Nat} (st : qSt b n T s M0) {i L : Nat} {σ W : List Int32} {M : gIt} (h : qS s M0 i L σ W M) (hW : W.length < 100) (w c1 c2 : Int32) (e1 : c1 = gmc w) (e2 : c2 = gma w) : ∃ M', p_X12_emit M c1 c2 = some M' ∧ qS s M0 i L σ (W ++ [w]) M' := by
  obtain ⟨h1, h2, h3, h4, h5, h6, h7, f1, f2, f3⟩ := h
  obtain ⟨-, hs, es⟩ := st
  have m4 : M 149 4 = nI s := by rw [f2 4 (by decide) (by decide) (by decide) (by decide) (by decide)]; exact es
  unfold p_X12_emit
  have e100 : (100 : Int32) * nI s + nI W.length = nI (100 * s + W.length) := by
    show nI 100 * nI s + _ = _
    rw [pk_mul, nI_add]
  rw [x12_good h2, gB_v, if_neg n10, h6, m4, e100, gck_t (gin_nI (by omega) (by omega)), gL_b, gu_rd (by decide), gu_rd (by decide), h6, m4, e100, gck_t (gin_nI (by omega) (by omega)), gL_b, nI_clamp (by omega), gu_rd (by decide), gu_rd (by decide), h6, nI_1, gL_b, gL_b]
  generalize hQ : gu2 (gu2 (gu2 M 167 (100 * s + W.length) c1) 168 (100 * s + W.length) c2) 149 32 (nI (W.length + 1)) = Q
  have e189 : ∀ k, Q 167 k = if k = 100 * s + W.length then c1 else M 167 k := fun k => by rw [← hQ, gu_rd (by decide), gu_rd (by decide), gu_sl]
  have e190 : ∀ k, Q 168 k = if k = 100 * s + W.length then c2 else M 168 k := fun k => by rw [← hQ, gu_rd (by decide), gu_sl, gu_rd (by decide)]
  have q149 : ∀ j, j ≠ 32 → Q 149 j = M 149 j := fun j hj => by rw [← hQ, gu_sl, if_neg hj, gu_rd (by decide), gu_rd (by decide)]
  refine ⟨Q, rfl, by rw [q149 28 (by decide)]; exact h1, by rw [q149 30 (by decide)]; exact h2, by rw [q149 33 (by decide)]; exact h3, by rw [q149 34 (by decide)]; exact h4, vS_w (fun k _ => by rw [← hQ, gu_rd (by decide), gu_rd (by decide), gu_rd (by decide)]) h5, by rw [← hQ, gu_sl, if_pos rfl, List.length_append]; rfl, fun k hk => ?_, fun x q1 q2 q3 q4 => by rw [← hQ, gu2_ne q1, gu2_ne q4, gu2_ne q3]; exact f1 x q1 q2 q3 q4, fun j q1 q2 q3 q4 q5 => by rw [q149 j q5]; exact f2 j q1 q2 q3 q4 q5, fun k hk => ?_⟩
  · rw [List.length_append] at hk
    have hk1 : k < W.length + 1 := hk
    rw [e189, e190]
    by_cases e : k = W.length
    · rw [e, if_pos rfl, if_pos rfl, gtW_r]; exact ⟨e1, e2⟩
    · rw [if_neg (by omega), gtW_l (by omega), if_neg (by omega)]
      exact h7 k (by omega)
  · rw [e189, e190, if_neg (by omega), if_neg (by omega)]
    exact f3 k hk
def opC (c : Int32) : Int32 := if c = 38 then -2 else -3
def isOc (c : Int32) : Prop := c = 38 ∨ c = 124
theorem opC_x {c : Int32} (h : isOc c) : gmc (opC c) = c ∧ gma (opC c) = 0 := by
  rcases h with h | h <;> rw [h] <;> decide
theorem q_joins {b : Nat → Int32} {n T s : Nat} (st : qSt b n T s M0) {i L : Nat} {σ : List Int32} (all : Int32) (hσ : all = 0 ∨ all = 1) (htp : if all = 0 then ¬ tpS σ = 38 else ¬ isOc (tpS σ)) : ∀ (π W : List Int32) (M : gIt) (f : Nat), (∀ c, c ∈ π → if all = 0 then c = 38 else isOc c) → (π ++ σ).length ≤ 110 → W.length + π.length ≤ 100 → π.length < f → qS s M0 i L (π ++ σ) W M → ∃ M', p_X12_joins_0 all f M = some M' ∧ qS s M0 i L σ (W ++ π.map opC) M' := by
  intro π
  induction π with
  | nil =>
    intro W M f _ hl _ hf h
    obtain ⟨f, rfl⟩ : ∃ q, f = q + 1 := ⟨f - 1, by omega⟩
    rw [List.nil_append] at h hl
    refine ⟨M, ?_, by rw [List.map_nil, List.append_nil]; exact h⟩
    unfold p_X12_joins_0
    rw [q_top h hl, gB_v]
    rcases hσ with rfl | rfl
    · rw [if_pos p00] at htp
      rw [if_neg htp, if_pos p00]
    · rw [if_neg n10] at htp
      rw [if_neg (fun q => htp (Or.inl q)), if_neg n10, gB_v, if_neg (fun q => htp (Or.inr q))]
  | cons c r ih =>
    intro W M f hc hl hW hf h
    obtain ⟨f, rfl⟩ : ∃ q, f = q + 1 := ⟨f - 1, by omega⟩
    have hop : isOc c := by
      have := hc c List.mem_cons_self
      rcases hσ with q | q
      · rw [q, if_pos p00] at this; exact Or.inl this
      · rw [q, if_neg n10] at this; exact this
    rw [List.length_cons] at hW hf
    rw [List.cons_append] at h hl
    rw [List.length_cons] at hl
    obtain ⟨ox1, ox2⟩ := opC_x hop
    obtain ⟨M1, e1, c1⟩ := q_emit st h (by omega) (opC c) c 0 ox1.symm ox2.symm
    obtain ⟨e2, c2⟩ := qS_pop c1
    obtain ⟨M3, e3, c3⟩ := ih (W ++ [opC c]) _ f (fun x hx => hc x (List.mem_cons_of_mem _ hx)) (by omega) (by rw [List.length_append, List.length_singleton]; omega) (by omega) c2
    refine ⟨M3, ?_, by rw [List.map_cons]; rw [List.append_assoc] at c3; exact c3⟩
    unfold p_X12_joins_0
    have tp : tpS (c :: (r ++ σ)) = c := rfl
    rw [q_top h (by rw [List.length_cons]; omega), gB_v, tp]
    simp only [gB_v, gL_b, e1, e2]
    rcases hop with q | q
    · rw [if_pos q]; exact e3
    · have ha : all = 1 := by
        rcases hσ with z | z
        · have := hc c List.mem_cons_self
          rw [z, if_pos p00, q] at this
          exact absurd this (by decide)
        · exact z
      rw [if_neg (by rw [q]; decide), ha, if_neg n10, if_pos q, ← ha]; exact e3
/-- the signs of not, behind a fault -/
theorem qB_top {s i : Nat} {σ : List Int32} {k p : Nat} {M : gIt} (h : qB s M0 i σ k p M) (hσ : σ.length ≤ 110) : p_X12_top M = some (tpS σ) := by
  obtain ⟨h1, h2, h3, h4, h5, -⟩ := h
  unfold p_X12_top
  rw [h4]
  match σ, h5, hσ with
  | [], _, _ => rw [if_pos (by decide)]; rfl
  | c :: r, h5, hσ =>
    rw [List.length_cons] at hσ ⊢
    rw [if_neg (nI_nle (by omega) (by omega)), nI_back, gck_t (gin_nI (by omega) (by omega)), nI_clamp (by omega), h5.1]
    rfl
theorem qB_ends {s i : Nat} {k p : Nat} : ∀ (σ : List Int32) (M : gIt) (f : Nat), σ.length ≤ 110 → σ.length < f → qB s M0 i σ k p M → ∃ M' σ', p_X12_ends_0 f M = some M' ∧ σ'.length ≤ σ.length ∧ qB s M0 i σ' k p M' := by
  intro σ
  induction σ with
  | nil =>
    intro M f hl hf h
    obtain ⟨f, rfl⟩ : ∃ q, f = q + 1 := ⟨f - 1, by omega⟩
    unfold p_X12_ends_0
    rw [qB_top h hl, gB_v, if_neg (show ¬ tpS [] = 33 by decide)]
    exact ⟨M, [], rfl, Nat.le_refl _, h⟩
  | cons c r ih =>
    intro M f hl hf h
    obtain ⟨f, rfl⟩ : ∃ q, f = q + 1 := ⟨f - 1, by omega⟩
    rw [List.length_cons] at hl hf
    unfold p_X12_ends_0
    rw [qB_top h (by rw [List.length_cons]; omega), gB_v]
    by_cases q : tpS (c :: r) = 33
    · rw [if_pos q, q_emitB h.2.2.1, gB_v, h.2.2.2.1, List.length_cons, nI_back, gL_b, gL_b, gL_b, gL_b]
      obtain ⟨h1, h2, h3, h4, h5, f1, f2, f3⟩ := h
      obtain ⟨M', σ', e', l', q'⟩ := ih (gu2 (gu2 M 149 34 (nI r.length)) 149 33 (gu2 M 149 34 (nI r.length) 149 33 - 1)) f (by omega) (by omega) ⟨by rw [gu_sl, if_neg (by decide), gu_sl, if_neg (by decide)]; exact h1, by rw [gu_sl, if_neg (by decide), gu_sl, if_neg (by decide)]; exact h2, by rw [gu_sl, if_neg (by decide), gu_sl, if_neg (by decide)]; exact h3, by rw [gu_sl, if_neg (by decide), gu_sl, if_pos rfl], vS_w (fun k _ => by rw [gu_rd (by decide), gu_rd (by decide)]) h5.2, fun x q1 q2 q3 q4 => by rw [gu2_ne q1, gu2_ne q1]; exact f1 x q1 q2 q3 q4, fun j q1 q2 q3 q4 q5 => by rw [gu_sl, if_neg q3, gu_sl, if_neg q4]; exact f2 j q1 q2 q3 q4 q5, fun k hk => by rw [gu_rd (by decide), gu_rd (by decide), gu_rd (by decide), gu_rd (by decide)]; exact f3 k hk⟩
      exact ⟨M', σ', e', by omega, q'⟩
    · rw [if_neg q]
      exact ⟨M, _, rfl, Nat.le_refl _, h⟩
/-- a sign of not is said -/
theorem q_not {b : Nat → Int32} {n T s : Nat} (st : qSt b n T s M0) {i L : Nat} {σ W : List Int32} {M : gIt} (h : qS s M0 i (L + 1) (33 :: σ) W M) (hW : W.length < 100) (hσ : σ.length < 110) (e : Nat) : ∃ M', p_X12_ends_0 (e + 1) M = p_X12_ends_0 e M' ∧ qS s M0 i L σ (W ++ [-1]) M' := by
  obtain ⟨M1, e1, c1⟩ := q_emit st h hW (-1) 6 0 (by decide) (by decide)
  obtain ⟨e2, c2⟩ := qS_pop c1
  refine ⟨_, ?_, qS_33 c2 L⟩
  conv => lhs; unfold p_X12_ends_0
  rw [q_top h (by rw [List.length_cons]; omega), gB_v, if_pos (show tpS (33 :: σ) = 33 from rfl), e1, gB_v, e2, gL_b, gL_b, c2.2.2.1, nI_back, gL_b, gL_b]
theorem q_ends0 {s i L : Nat} {σ W : List Int32} {M : gIt} (h : qS s M0 i L σ W M) (hσ : σ.length ≤ 110) (ht : ¬ tpS σ = 33) (e : Nat) : p_X12_ends_0 (e + 1) M = some M := by
  unfold p_X12_ends_0
  rw [q_top h hσ, gB_v, if_neg ht]
end Qm
