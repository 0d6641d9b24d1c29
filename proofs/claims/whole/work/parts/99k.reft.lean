/-! ===== the reference reads a settlement's text ===== -/
def tkC (x1 x2 z14 ph17 wh : Int32) (M : gIt) : Option gIt :=
  gB (p_X12_isGood M) fun r25 =>
  gB (α := (Int32 × gIt)) (
  if r25 = 0 then
  some ((1 : Int32), M)
  else
  gB (p_X12_here M) fun r48 =>
  if r48 = (47 : Int32) then
  gL (((M 149 28) + (1 : Int32))) fun z51 =>
  gL (gu2 M 149 28 z51) fun I52 =>
  gB (p_X12_here I52) fun r53 =>
  gB (p_X12_lies (Int32.toInt64 r53) (50 : Int64) (57 : Int64)) fun r55 =>
  gB (α := gIt) (
  if r55 = 0 then
  gB (p_X12_wrongs I52 (1 : Int32) (I52 149 28)) fun r67 =>
  some r67
  else
  some I52) fun ph57 =>
  gB (p_X12_here ph57) fun r61 =>
  gL ((r61 - (48 : Int32))) fun z63 =>
  gL (((ph57 149 28) + (1 : Int32))) fun z64 =>
  gL (gu2 ph57 149 28 z64) fun I65 =>
  some (z63, I65)
  else
  some ((1 : Int32), M)) fun ph27 =>
  gB (p_X12_isGood ph27.2) fun r31 =>
  if r31 = 0 then
  some ph27.2
  else
  gck (gin z14 320) (
  gL (gu2 ph27.2 164 (z14).toNatClampNeg (vp_nar .boolean ph17)) fun I35 =>
  gck (gin z14 320) (
  gL (gu2 I35 165 (z14).toNatClampNeg wh) fun I37 =>
  gck (gin z14 320) (
  gL (gu2 I37 166 (z14).toNatClampNeg ph27.1) fun I39 =>
  if x2 = 0 then
  gck (gin x1 80) (
  gL (((I39 161 (x1).toNatClampNeg) + (1 : Int32))) fun z42 =>
  gck (gin x1 80) (
  gL (gu2 I39 161 (x1).toNatClampNeg z42) fun I44 =>
  some I44))
  else
  gck (gin x1 80) (
  gL (gu2 I39 161 (x1).toNatClampNeg (1 : Int32)) fun I46 =>
  some I46))))
def tkB (x1 x2 : Int32) (M : gIt) : Option gIt :=

  gB (p_X12_isGood M) fun r7 =>
  if r7 = 0 then
  some M
  else
  gB (α := Int32) (
  if x2 = 0 then
  gck (gin x1 80) (
  some (M 161 (x1).toNatClampNeg))
  else
  some (0 : Int32)) fun ph10 =>
  gL ((((4 : Int32) * x1) + ph10)) fun z14 =>
  gB (p_X12_here M) fun r15 =>
  gB (α := Int32) (
  if r15 = (42 : Int32) then
  some (1 : Int32)
  else
  some (0 : Int32)) fun ph17 =>
  gB (α := (Int32 × gIt)) (
  if ph17 = 0 then
  gB (p_X12_who M) fun r70 =>
  some (r70.1, r70.2)
  else
  gB (p_X12_whose M) fun r72 =>
  some (r72.1, r72.2)) fun ph21 => tkC x1 x2 z14 ph17 ph21.1 ph21.2
/-- what a taker writes -/
def tkR (M : gIt) (z c j : Nat) (w g : Int32) (M' : gIt) : Prop := (∀ x, x ≠ 149 → x ≠ 161 → x ≠ 164 → x ≠ 165 → x ≠ 166 → M' x = M x) ∧ M' 149 28 = nI j ∧ (∀ k, k ≠ 28 → M' 149 k = M 149 k) ∧ (∀ k, M' 161 k = if k = z then nI (c + 1) else M 161 k) ∧ (∀ k, M' 164 k = if k = 4 * z + c then (if 16 ≤ w.toInt then 1 else 0) else M 164 k) ∧ (∀ k, M' 165 k = if k = 4 * z + c then gma w else M 165 k) ∧ ∀ k, M' 166 k = if k = 4 * z + c then g else M 166 k
/-- what a fault writes -/
def vB (M : gIt) (k p : Nat) (M' : gIt) : Prop := M' 149 30 = -1000 * nI k - nI p ∧ (M' 149 30).toInt < 0 ∧ (∀ x, x ≠ 149 → M' x = M x) ∧ (∃ q, q ≤ 200 ∧ M' 149 28 = nI q) ∧ ∀ j, j ≠ 28 → j ≠ 30 → M' 149 j = M 149 j
theorem vB_0 {M : gIt} {i : Nat} (h28 : M 149 28 = nI i) (hi : i ≤ 200) {k p : Nat} (hk : 1 ≤ k) (hk2 : k ≤ 5) (hp : p ≤ 200) : vB M k p (gu2 M 149 30 (-1000 * nI k - nI p)) := ⟨by rw [gu_sl, if_pos rfl], by rw [gu_sl, if_pos rfl]; exact bad_neg hk hk2 hp, fun x hx => gu2_ne hx, ⟨i, hi, by rw [gu_sl, if_neg (by decide)]; exact h28⟩, fun j h1 h2 => by rw [gu_sl, if_neg h2]⟩
theorem vB_28 {M M' : gIt} {k p : Nat} (h : vB M k p M') {j : Nat} (hj : j ≤ 200) : vB M k p (gu2 M' 149 28 (nI j)) := by
  obtain ⟨h1, h2, h3, -, h5⟩ := h
  exact ⟨by rw [gu_sl, if_neg (by decide)]; exact h1, by rw [gu_sl, if_neg (by decide)]; exact h2, fun x hx => by rw [gu2_ne hx]; exact h3 x hx, ⟨j, hj, by rw [gu_sl, if_pos rfl]⟩, fun j h1 h2 => by rw [gu_sl, if_neg h1]; exact h5 j h1 h2⟩
theorem vB_p {M M1 M' : gIt} {j : Nat} {v : Int32} (e : M1 = gu2 M 149 28 v) {k p : Nat} (h : vB M1 k p M') : vB M k p M' := by
  obtain ⟨h1, h2, h3, h4, h5⟩ := h
  exact ⟨h1, h2, fun x hx => by rw [h3 x hx, e, gu2_ne hx], h4, fun j q1 q2 => by rw [h5 j q1 q2, e, gu_sl, if_neg q1]⟩
section Qt
variable {b : Nat → Int32} {n T : Nat}
theorem op_hr (b : Nat → Int32) (n i : Nat) : opT b n i = (decide (hrB b n i = 42) || isLt (pkB b n i)) := by
  unfold opT
  by_cases c : pkB b n i = 42
  · rw [decide_eq_true c, decide_eq_true ((hr_iff (by decide)).mpr c)]
  · rw [decide_eq_false c, decide_eq_false (fun q => c ((hr_iff (by decide)).mp q))]
/-- before a taker is read -/
theorem tk_pre {M : gIt} (h : rB b n T M) {i z : Nat} (hi : i ≤ n) (h28 : M 149 28 = nI i) (h30 : M 149 30 = 0) {x2 : Int32} (hx : x2 = 1 ∨ (x2 = 0 ∧ z < 80)) {lim : Prop} [Decidable lim] (hl1 : x2 = 1 → (M 149 31 = 8 ↔ lim)) (hl0 : x2 = 0 → (M 161 z = 4 ↔ lim)) {kf : Nat} (hk1 : x2 = 1 → kf = 3) (hk0 : x2 = 0 → kf = 4) (hz : z < 100) : p_X12_taker M (nI z) x2 = if opT b n i then (if lim then some (gu2 M 149 30 (-1000 * nI kf - nI i)) else tkB (nI z) x2 M) else some (gu2 M 149 30 (-1000 * nI 1 - nI i)) := by
  have hn := h.1
  have w3 : p_X12_wrongs M 3 (M 149 28) = some (gu2 M 149 30 (-1000 * nI 3 - nI i)) := by rw [← h28]; exact q_wrong0 h30 (nI 3)
  have w4 : p_X12_wrongs M 4 (M 149 28) = some (gu2 M 149 30 (-1000 * nI 4 - nI i)) := by rw [← h28]; exact q_wrong0 h30 (nI 4)
  have w1 : p_X12_wrongs M 1 (M 149 28) = some (gu2 M 149 30 (-1000 * nI 1 - nI i)) := by rw [← h28]; exact q_wrong0 h30 (nI 1)
  have bad : ∀ k : Nat, 1 ≤ k → k ≤ 5 → p_X12_isGood (gu2 M 149 30 (-1000 * nI k - nI i)) = some 0 := fun k h1 h2 => x12_nogood (vB_0 h28 (by omega) h1 h2 (by omega)).2.1
  unfold p_X12_taker
  rw [q_here h (by omega) h28, gB_v, gB_v, q_letter, gB_v]
  rw [op_hr]
  by_cases c1 : hrB b n i = 42
  · rw [if_pos c1, decide_eq_true c1, Bool.true_or, if_pos rfl]
    rcases hx with rfl | ⟨rfl, hz80⟩
    · rw [if_neg n10, if_neg n10]
      by_cases c2 : lim
      · rw [if_pos ((hl1 rfl).mpr c2), if_pos c2, w3, gB_v, gB_v, bad 3 (by omega) (by omega), gB_v, if_pos p00, hk1 rfl]
      · rw [if_neg (fun q => c2 ((hl1 rfl).mp q)), if_neg c2, gB_v]
        unfold tkB tkC
        rfl
    · rw [if_pos p00, if_pos p00, gck_t (gin_nI (by omega) (by omega)), nI_clamp (by omega)]
      by_cases c2 : lim
      · rw [if_pos ((hl0 rfl).mpr c2), if_pos c2, w4, gB_v, gB_v, bad 4 (by omega) (by omega), gB_v, if_pos p00, hk0 rfl]
      · rw [if_neg (fun q => c2 ((hl0 rfl).mp q)), if_neg c2, gB_v]
        unfold tkB tkC
        rw [nI_clamp (by omega)]
  · rw [if_neg c1, decide_eq_false c1, Bool.false_or]
    by_cases c3 : isLt (pkB b n i) = true
    · rw [if_pos c3, if_neg n10, if_pos c3]
      rcases hx with rfl | ⟨rfl, hz80⟩
      · rw [if_neg n10, if_neg n10]
        by_cases c2 : lim
        · rw [if_pos ((hl1 rfl).mpr c2), if_pos c2, w3, gB_v, gB_v, bad 3 (by omega) (by omega), gB_v, if_pos p00, hk1 rfl]
        · rw [if_neg (fun q => c2 ((hl1 rfl).mp q)), if_neg c2, gB_v]
          unfold tkB tkC
          rfl
      · rw [if_pos p00, if_pos p00, gck_t (gin_nI (by omega) (by omega)), nI_clamp (by omega)]
        by_cases c2 : lim
        · rw [if_pos ((hl0 rfl).mpr c2), if_pos c2, w4, gB_v, gB_v, bad 4 (by omega) (by omega), gB_v, if_pos p00, hk0 rfl]
        · rw [if_neg (fun q => c2 ((hl0 rfl).mp q)), if_neg c2, gB_v]
          unfold tkB tkC
          rw [nI_clamp (by omega)]
    · rw [if_neg c3, if_pos p00, if_neg c3, w1, gB_v, gB_v, bad 1 (by omega) (by omega), gB_v, if_pos p00]
/-- a taker's part -/
theorem tk_part {M : gIt} (h : rB b n T M) {j0 z c : Nat} (hj : j0 ≤ n) (hz : z < 80) (hc : c ≤ 3) (h28 : M 149 28 = nI j0) (h30 : M 149 30 = 0) {x2 : Int32} (hx : (x2 = 1 ∧ c = 0) ∨ (x2 = 0 ∧ M 161 z = nI c)) {w wh ph : Int32} (hph : ph = if 16 ≤ w.toInt then 1 else 0) (hwh : wh = gma w) : (pkB b n j0 = 47 → ¬ isPt (pkB b n (j0 + 1)) = true → ∃ M', tkC (nI z) x2 (nI (4 * z + c)) ph wh M = some M' ∧ vB M 1 (j0 + 1) M') ∧ (pkB b n j0 = 47 → isPt (pkB b n (j0 + 1)) = true → ∃ M', tkC (nI z) x2 (nI (4 * z + c)) ph wh M = some M' ∧ tkR M z c (j0 + 2) w (nI ((pkB b n (j0 + 1)).toNatClampNeg - 48)) M') ∧ (¬ pkB b n j0 = 47 → ∃ M', tkC (nI z) x2 (nI (4 * z + c)) ph wh M = some M' ∧ tkR M z c j0 w 1 M') := by
  have hn := h.1
  -- the writing
  have wr : ∀ (N : gIt) (j : Nat) (g : Int32), N 149 30 = 0 → N 149 28 = nI j → (∀ x, x ≠ 149 → N x = M x) → (∀ k, k ≠ 28 → N 149 k = M 149 k) → ∀ X, X = (gB (p_X12_isGood N) fun r31 => if r31 = 0 then some N else gck (gin (nI (4 * z + c)) 320) (gL (gu2 N 164 (nI (4 * z + c)).toNatClampNeg (vp_nar .boolean ph)) fun I35 => gck (gin (nI (4 * z + c)) 320) (gL (gu2 I35 165 (nI (4 * z + c)).toNatClampNeg wh) fun I37 => gck (gin (nI (4 * z + c)) 320) (gL (gu2 I37 166 (nI (4 * z + c)).toNatClampNeg g) fun I39 => if x2 = 0 then gck (gin (nI z) 80) (gL (((I39 161 (nI z).toNatClampNeg) + (1 : Int32))) fun z42 => gck (gin (nI z) 80) (gL (gu2 I39 161 (nI z).toNatClampNeg z42) fun I44 => some I44)) else gck (gin (nI z) 80) (gL (gu2 I39 161 (nI z).toNatClampNeg (1 : Int32)) fun I46 => some I46))))) → ∃ M', X = some M' ∧ tkR M z c j w g M' := by
    intro N j g n30 n28 nx nj X hX
    have hnar : vp_nar .boolean ph = ph := by
      rw [hph]
      by_cases q : 16 ≤ w.toInt
      · rw [if_pos q]; rfl
      · rw [if_neg q]; rfl
    rw [x12_good n30, gB_v, if_neg n10, gck_t (gin_nI (by omega) (by omega)), gL_b, gck_t (gin_nI (by omega) (by omega)), gL_b, gck_t (gin_nI (by omega) (by omega)), gL_b, nI_clamp (by omega), nI_clamp (by omega), hnar] at hX
    have fin : X = some (gu2 (gu2 (gu2 (gu2 N 164 (4 * z + c) ph) 165 (4 * z + c) wh) 166 (4 * z + c) g) 161 z (nI (c + 1))) := by
      rcases hx with ⟨rfl, rfl⟩ | ⟨rfl, e161⟩
      · rw [if_neg n10, gck_t (gin_nI (by omega) (by omega)), gL_b] at hX
        exact hX
      · rw [if_pos p00, gck_t (gin_nI (by omega) (by omega)), gL_b, gck_t (gin_nI (by omega) (by omega)), gL_b, gu_rd (by decide), gu_rd (by decide), gu_rd (by decide), nx 161 (by decide), e161, nI_1] at hX
        exact hX
    refine ⟨_, fin, fun x q1 q2 q3 q4 q5 => ?_, ?_, fun k hk => ?_, fun k => ?_, fun k => ?_, fun k => ?_, fun k => ?_⟩
    · rw [gu2_ne q2, gu2_ne q5, gu2_ne q4, gu2_ne q3]; exact nx x q1
    · rw [gu_rd (by decide), gu_rd (by decide), gu_rd (by decide), gu_rd (by decide)]; exact n28
    · rw [gu_rd (by decide), gu_rd (by decide), gu_rd (by decide), gu_rd (by decide)]; exact nj k hk
    · rw [gu_sl, gu_rd (by decide), gu_rd (by decide), gu_rd (by decide), nx 161 (by decide)]
    · rw [gu_rd (by decide), gu_rd (by decide), gu_rd (by decide), gu_sl, nx 164 (by decide), hph]
    · rw [gu_rd (by decide), gu_rd (by decide), gu_sl, gu_rd (by decide), nx 165 (by decide), hwh]
    · rw [gu_rd (by decide), gu_sl, gu_rd (by decide), gu_rd (by decide), nx 166 (by decide)]
  have hr1 := rB_w h (j := 28) (by decide) (by decide) (nI (j0 + 1))
  have m28 : gu2 M 149 28 (nI (j0 + 1)) 149 28 = nI (j0 + 1) := by rw [gu_sl, if_pos rfl]
  have m30 : gu2 M 149 28 (nI (j0 + 1)) 149 30 = 0 := by rw [gu_sl, if_neg (by decide)]; exact h30
  have hlies : (hrB b n (j0 + 1)).toInt = (pkB b n (j0 + 1)).toInt ∨ (¬ isPt (pkB b n (j0 + 1)) = true ∧ ¬ (50 ≤ (hrB b n (j0 + 1)).toInt ∧ (hrB b n (j0 + 1)).toInt ≤ 57)) := by
    rcases hr_or b n (j0 + 1) with q | ⟨q1, q2⟩
    · exact Or.inl (by rw [q])
    · exact Or.inr (by rw [q1, q2]; decide)
  have hpt : isPt (pkB b n (j0 + 1)) = true ↔ (50 ≤ (hrB b n (j0 + 1)).toInt ∧ (hrB b n (j0 + 1)).toInt ≤ 57) := by
    rcases hlies with q | ⟨q1, q2⟩
    · unfold isPt; rw [decide_eq_true_eq, q]
    · exact ⟨fun z => absurd z q1, fun z => absurd z q2⟩
  unfold tkC
  rw [x12_good h30, gB_v, if_neg n10, q_here h (by omega) h28, gB_v]
  refine ⟨fun c1 c2 => ?_, fun c1 c2 => ?_, fun c1 => ?_⟩
  · have hlt := pkB_lt (b := b) (n := n) (i := j0) (by rw [c1]; decide)
    have b1 := vB_p (M := M) (j := 0) rfl (vB_0 m28 (by omega) (k := 1) (p := j0 + 1) (by omega) (by omega) (by omega))
    rw [if_pos ((hr_iff (by decide)).mpr c1), h28, nI_1, gL_b, gL_b, q_here hr1 (by omega) m28, gB_v, lies_n _ (by simp only [i32_toInt64, Int64.reduceToInt]; exact fun q => c2 (hpt.mpr q)), if_pos p00, show p_X12_wrongs (gu2 M 149 28 (nI (j0 + 1))) 1 (gu2 M 149 28 (nI (j0 + 1)) 149 28) = _ from q_wrong0 m30 (nI 1), gB_v, gB_v, m28]
    have n28 : gu2 (gu2 M 149 28 (nI (j0 + 1))) 149 30 (-1000 * nI 1 - nI (j0 + 1)) 149 28 = nI (j0 + 1) := by rw [gu_sl, if_neg (by decide)]; exact m28
    generalize gu2 (gu2 M 149 28 (nI (j0 + 1))) 149 30 (-1000 * nI 1 - nI (j0 + 1)) = N at b1 n28
    have hrN : rB b n T N := ⟨h.1, by rw [b1.2.2.2.2 29 (by decide) (by decide)]; exact h.2.1, fun i hi => by rw [b1.2.2.1 150 (by decide)]; exact h.2.2.1 i hi, by rw [b1.2.2.2.2 35 (by decide) (by decide)]; exact h.2.2.2.1, h.2.2.2.2⟩
    rw [q_here hrN (by omega) n28, gB_v, gL_b, n28, nI_1, gL_b, gL_b, gB_v]
    have b2 := vB_28 b1 (j := j0 + 1 + 1) (by omega)
    dsimp only
    rw [x12_nogood b2.2.1, gB_v, if_pos p00]
    exact ⟨_, rfl, b2⟩
  · have hlt := pkB_lt (b := b) (n := n) (i := j0) (by rw [c1]; decide)
    have hp2 := c2
    unfold isPt at hp2
    rw [decide_eq_true_eq] at hp2
    have hlt2 := pkB_lt (b := b) (n := n) (i := j0 + 1) (fun z => by rw [z] at hp2; exact absurd hp2.1 (by decide))
    have eg : hrB b n (j0 + 1) - 48 = nI ((pkB b n (j0 + 1)).toNatClampNeg - 48) := by
      have e : hrB b n (j0 + 1) = pkB b n (j0 + 1) := by unfold hrB pkB; rw [if_pos hlt2, if_pos hlt2]
      obtain ⟨y, -, ez, tz⟩ := i_of (x := pkB b n (j0 + 1)) (by omega)
      rw [e, ez, nI_clamp (by omega)]
      exact pk_sub (b := 48) (by omega)
    rw [if_pos ((hr_iff (by decide)).mpr c1), h28, nI_1, gL_b, gL_b, q_here hr1 (by omega) m28, gB_v, lies_y _ (by simp only [i32_toInt64, Int64.reduceToInt]; exact hpt.mp c2), if_neg n10, gB_v, q_here hr1 (by omega) m28, gB_v, eg, gL_b, m28, nI_1, gL_b, gL_b, gB_v]
    refine wr (gu2 (gu2 M 149 28 (nI (j0 + 1))) 149 28 (nI (j0 + 1 + 1))) (j0 + 2) _ ?_ ?_ (fun x hx => by rw [gu2_ne hx, gu2_ne hx]) (fun k hk => by rw [gu_sl, if_neg hk, gu_sl, if_neg hk]) _ rfl
    · rw [gu_sl, if_neg (by decide)]; exact m30
    · rw [gu_sl, if_pos rfl]
  · rw [if_neg (fun q => c1 ((hr_iff (by decide)).mp q)), gB_v]
    exact wr M j0 1 h30 h28 (fun _ _ => rfl) (fun _ _ => rfl) _ rfl
theorem tkR_p {M M1 M' : gIt} {z c j : Nat} {w g : Int32} (hx : ∀ x, x ≠ 149 → M1 x = M x) (hj : ∀ k, k ≠ 28 → M1 149 k = M 149 k) (h : tkR M1 z c j w g M') : tkR M z c j w g M' := by
  obtain ⟨h1, h2, h3, h4, h5, h6, h7⟩ := h
  exact ⟨fun x q1 q2 q3 q4 q5 => by rw [h1 x q1 q2 q3 q4 q5]; exact hx x q1, h2, fun k hk => by rw [h3 k hk]; exact hj k hk, fun k => by rw [h4, hx 161 (by decide)], fun k => by rw [h5, hx 164 (by decide)], fun k => by rw [h6, hx 165 (by decide)], fun k => by rw [h7, hx 166 (by decide)]⟩
theorem vB_q {M M1 M' : gIt} {k p : Nat} (hx : ∀ x, x ≠ 149 → M1 x = M x) (hj : ∀ k, k ≠ 28 → M1 149 k = M 149 k) (h : vB M1 k p M') : vB M k p M' := by
  obtain ⟨h1, h2, h3, h4, h5⟩ := h
  exact ⟨h1, h2, fun x q => by rw [h3 x q]; exact hx x q, h4, fun j q1 q2 => by rw [h5 j q1 q2]; exact hj j q1⟩
theorem q_tkB {M : gIt} (h : rB b n T M) {i z c : Nat} (hi : i ≤ n) (hz : z < 80) (hc : c ≤ 3) (h28 : M 149 28 = nI i) (h30 : M 149 30 = 0) {x2 : Int32} (hx : (x2 = 1 ∧ c = 0) ∨ (x2 = 0 ∧ M 161 z = nI c)) (hop : opT b n i = true) : (∀ k p, tk1 b n T i = .inl (k, p) → ∃ M', tkB (nI z) x2 M = some M' ∧ vB M k p M') ∧ ∀ j w g, tk1 b n T i = .inr (j, w, g) → ∃ M', tkB (nI z) x2 M = some M' ∧ tkR M z c j w g M' := by
  have hn := h.1
  have e10 : (if x2 = 0 then gck (gin (nI z) 80) (some (M 161 (nI z).toNatClampNeg)) else some (0 : Int32)) = some (nI c) := by
    rcases hx with ⟨rfl, rfl⟩ | ⟨rfl, e⟩
    · rw [if_neg n10]; rfl
    · rw [if_pos p00, gck_t (gin_nI (by omega) (by omega)), nI_clamp (by omega), e]
  have e14 : (4 : Int32) * nI z + nI c = nI (4 * z + c) := by
    show nI 4 * nI z + _ = _
    rw [pk_mul, nI_add]
  unfold tkB
  rw [x12_good h30, gB_v, if_neg n10, e10, gB_v, e14, gL_b, q_here h (by omega) h28, gB_v]
  -- who it is, then the part
  have go : ∀ (M1 : gIt) (j0 : Nat) (w ph : Int32), whS b n T i = .inr (j0, [w]) → j0 ≤ n → rB b n T M1 → M1 149 28 = nI j0 → M1 149 30 = 0 → (∀ x, x ≠ 149 → M1 x = M x) → (∀ k, k ≠ 28 → M1 149 k = M 149 k) → ph = (if 16 ≤ w.toInt then 1 else 0) → (∀ k p, tk1 b n T i = .inl (k, p) → ∃ M', tkC (nI z) x2 (nI (4 * z + c)) ph (gma w) M1 = some M' ∧ vB M k p M') ∧ ∀ j w' g, tk1 b n T i = .inr (j, w', g) → ∃ M', tkC (nI z) x2 (nI (4 * z + c)) ph (gma w) M1 = some M' ∧ tkR M z c j w' g M' := by
    intro M1 j0 w ph ew hj0 hr1 e28 e30 ex ej hph
    obtain ⟨p1, p2, p3⟩ := tk_part hr1 (z := z) (c := c) (x2 := x2) (w := w) (wh := gma w) (ph := ph) hj0 hz hc e28 e30 (by
      rcases hx with q | ⟨q, e⟩
      · exact Or.inl q
      · exact Or.inr ⟨q, by rw [ex 161 (by decide)]; exact e⟩) hph rfl
    have g0 : gtW [w] 0 = w := rfl
    unfold tk1
    rw [ew]
    dsimp only
    by_cases c1 : pkB b n j0 = 47
    · rw [if_pos c1]
      by_cases c2 : isPt (pkB b n (j0 + 1)) = true
      · rw [if_pos c2]
        refine ⟨fun k p e => by exact absurd e (by simp), fun j w' g e => ?_⟩
        rw [Sum.inr.injEq, Prod.mk.injEq, Prod.mk.injEq] at e
        obtain ⟨e1, e2, e3⟩ := e
        rw [← e1, ← e2, ← e3, g0]
        obtain ⟨M', e', t'⟩ := p2 c1 c2
        exact ⟨M', e', tkR_p ex ej t'⟩
      · rw [if_neg c2]
        refine ⟨fun k p e => ?_, fun j w' g e => by exact absurd e (by simp)⟩
        rw [Sum.inl.injEq, Prod.mk.injEq] at e
        rw [← e.1, ← e.2]
        obtain ⟨M', e', t'⟩ := p1 c1 c2
        exact ⟨M', e', vB_q ex ej t'⟩
    · rw [if_neg c1]
      refine ⟨fun k p e => by exact absurd e (by simp), fun j w' g e => ?_⟩
      rw [Sum.inr.injEq, Prod.mk.injEq, Prod.mk.injEq] at e
      obtain ⟨e1, e2, e3⟩ := e
      rw [← e1, ← e2, ← e3, g0]
      obtain ⟨M', e', t'⟩ := p3 c1
      exact ⟨M', e', tkR_p ex ej t'⟩
  -- a fault of who
  have bd : ∀ (M1 : gIt) (k0 p0 : Nat) (ph wh : Int32), whS b n T i = .inl (k0, p0) → vB M k0 p0 M1 → (∀ k p, tk1 b n T i = .inl (k, p) → ∃ M', tkC (nI z) x2 (nI (4 * z + c)) ph wh M1 = some M' ∧ vB M k p M') ∧ ∀ j w' g, tk1 b n T i = .inr (j, w', g) → ∃ M', tkC (nI z) x2 (nI (4 * z + c)) ph wh M1 = some M' ∧ tkR M z c j w' g M' := by
    intro M1 k0 p0 ph wh ew hb
    unfold tk1 tkC
    rw [ew]
    dsimp only
    refine ⟨fun k p e => ?_, fun j w' g e => by exact absurd e (by simp)⟩
    rw [Sum.inl.injEq, Prod.mk.injEq] at e
    rw [← e.1, ← e.2, x12_nogood hb.2.1, gB_v, if_pos p00, gB_v]
    dsimp only
    rw [x12_nogood hb.2.1, gB_v, if_pos p00]
    exact ⟨M1, rfl, hb⟩
  by_cases c1 : pkB b n i = 42
  · have hlt := pkB_lt (b := b) (n := n) (i := i) (by rw [c1]; decide)
    obtain ⟨v, ev, hv⟩ := q_whose h hlt h28 h30
    rw [if_pos ((hr_iff (by decide)).mpr c1), gB_v, if_neg n10, ev, gB_v, gB_v]
    dsimp only
    by_cases c2 : isLt (pkB b n (i + 1)) = true
    · obtain ⟨z1, z2, -⟩ := isLt_lt c2
      obtain ⟨g1, g2⟩ := (gm_who _ z2).1
      rw [if_pos c2, hv c2, ← g2]
      refine go _ (i + 2) (nI (16 + ltO (pkB b n (i + 1)))) 1 ?_ (by omega) (rB_w (rB_w h (by decide) (by decide) _) (by decide) (by decide) _) (by rw [gu_sl, if_pos rfl]) (by rw [gu_sl, if_neg (by decide), gu_sl, if_neg (by decide)]; exact h30) (fun x hx => by rw [gu2_ne hx, gu2_ne hx]) (fun k hk => by rw [gu_sl, if_neg hk, gu_sl, if_neg hk]) ?_
      · unfold whS; rw [if_pos c1, if_pos c2]
      · rw [if_pos (by rw [nI_toInt (by omega)]; omega)]
    · rw [if_neg c2]
      refine bd _ 1 (i + 1) 1 v ?_ ?_
      · unfold whS; rw [if_pos c1, if_neg c2]
      · exact vB_28 (vB_p (M := M) (j := 0) rfl (vB_0 (i := i + 1) (by rw [gu_sl, if_pos rfl]) (by omega) (by omega) (by omega) (by omega))) (by omega)
  · have c3 : isLt (pkB b n i) = true := by
      unfold opT at hop
      rw [decide_eq_false c1, Bool.false_or] at hop
      exact hop
    obtain ⟨z1, z2, -⟩ := isLt_lt c3
    rw [if_neg (fun q => c1 ((hr_iff (by decide)).mp q)), gB_v, if_pos p00, q_who h h28 h30 c3, gB_v, gB_v]
    dsimp only
    by_cases c4 : ltO (pkB b n i) = T
    · rw [if_pos c4]
      refine bd _ 2 i 0 _ ?_ ?_
      · unfold whS; rw [if_neg c1, if_pos c3, if_pos c4]
      · exact vB_28 (vB_0 h28 (by omega) (by omega) (by omega) (by omega)) (by omega)
    · obtain ⟨g1, g2⟩ := (gm_who _ z2).2
      rw [if_neg c4]
      have := go (gu2 M 149 28 (nI (i + 1))) (i + 1) (nI (ltO (pkB b n i))) 0 (by unfold whS; rw [if_neg c1, if_pos c3, if_neg c4]) (by omega) (rB_w h (by decide) (by decide) _) (by rw [gu_sl, if_pos rfl]) (by rw [gu_sl, if_neg (by decide)]; exact h30) (fun x hx => by rw [gu2_ne hx]) (fun k hk => by rw [gu_sl, if_neg hk]) (by rw [if_neg (by rw [nI_toInt (by omega)]; omega)])
      rw [g2] at this
      exact this
end Qt
