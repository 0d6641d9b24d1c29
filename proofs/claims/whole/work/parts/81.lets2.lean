/-! ===== the reference: what the first clause that holds gives ===== -/
def mst (M : gIt) (st : (Nat → Nat) × Nat) : Prop := M 149 39 = nI st.2 ∧ ∀ o, o < 16 → M 171 o = nI (st.1 o)
def frL (M0 M : gIt) : Prop := (∀ x, x ≠ 170 → x ≠ 171 → x ≠ 149 → M x = M0 x) ∧ ∀ j, j ≠ 39 → M 149 j = M0 149 j
theorem frL_rf (M : gIt) : frL M M := ⟨fun _ _ _ _ => rfl, fun _ _ => rfl⟩
theorem frL_tr {M0 M1 M2 : gIt} (h : frL M0 M1) (h' : frL M1 M2) : frL M0 M2 := ⟨fun x a b c => (h'.1 x a b c).trans (h.1 x a b c), fun j hj => (h'.2 j hj).trans (h.2 j hj)⟩
theorem frL_keep {M0 M : gIt} (h : frL M0 M) : gkeep M0 M := by
  obtain ⟨h1, h2⟩ := h
  refine ⟨fun x hx => h1 x (by rintro rfl; unfold gco at hx; omega) (by rintro rfl; unfold gco at hx; omega) (by rintro rfl; unfold gco at hx; omega), ⟨?_, ?_, ?_, ?_, ?_, ?_, ?_, ?_, ?_, ?_⟩, ⟨?_, ?_, ?_, ?_, ?_, ?_⟩, h2 _ (by decide), h2 _ (by decide), h2 _ (by decide), h2 _ (by decide), h2 _ (by decide), h2 _ (by decide), h2 _ (by decide), h2 _ (by decide), h2 _ (by decide), h2 _ (by decide), h2 _ (by decide)⟩ <;> rw [h1 _ (by decide) (by decide) (by decide)]
theorem fr170_L {M0 M : gIt} (h : fr170 M0 M) : frL M0 M := ⟨fun x a _ _ => h x a, fun j _ => by rw [h 149 (by decide)]⟩
theorem mst_170 {M0 M : gIt} {st : (Nat → Nat) × Nat} (h : fr170 M0 M) (hm : mst M0 st) : mst M st := ⟨by rw [h 149 (by decide)]; exact hm.1, fun o ho => by rw [h 171 (by decide)]; exact hm.2 o ho⟩
theorem x12_gives {M0 M : gIt} {st : (Nat → Nat) × Nat} {F each : Nat} (hF : F < 2 ^ 30) (hb : gbd F st) (hm : mst M st) (hfr : frL M0 M) (he : each < 2 ^ 31) {o : Nat} (ho : o < 16) : ∃ M', p_X12_gives M (nI o) (nI each) = some M' ∧ mst M' (gv1 each st o) ∧ frL M0 M' := by
  have hbo := hb o
  refine ⟨gu2 (gu2 M 171 o (nI (st.1 o + min each st.2))) 149 39 (nI (st.2 - min each st.2)), ?_, ⟨?_, fun x hx => ?_⟩, fun x h1 h2 h3 => ?_, fun j hj => ?_⟩
  · unfold p_X12_gives
    have e1 : (if (M 149 39) ≤ nI each then some (M 149 39) else some (nI each)) = some (nI (min each st.2)) := by
      rw [hm.1]
      by_cases c : st.2 ≤ each
      · rw [if_pos (nI_le c he), Nat.min_eq_right c]
      · rw [if_neg (nI_ge (by omega) (by omega)), Nat.min_eq_left (by omega)]
    rw [e1, gB_v, gck_t (gin_nI ho (by omega)), nI_clamp (by omega), gL_b, gck_t (gin_nI ho (by omega)), hm.2 o ho, nI_add, gL_b, gL_b, gL_b, gu_rd (by decide), hm.1, pk_sub (by omega)]
  · rw [gu_sl, if_pos rfl]; rfl
  · rw [gu_rd (by decide), gu_sl]
    unfold gv1
    dsimp only
    by_cases e : x = o
    · rw [if_pos e, if_pos e]
    · rw [if_neg e, if_neg e]; exact hm.2 x hx
  · rw [gu2_ne h3, gu2_ne h2]; exact hfr.1 x h1 h2 h3
  · rw [gu_sl, if_neg hj, gu_rd (by decide)]; exact hfr.2 j hj
theorem x12_lets_171 {M0 : gIt} {P F part S n : Nat} (hP : P ≤ 16) (h3 : M0 149 3 = nI P) (hF : F < 2 ^ 30) (hpart : part < 2 ^ 30) (hS : S < 65536) (hn : n ≤ 16) (hn0 : ∀ k, S.testBit k = true → ¬ n = 0) (K88 : gIt → Int32 → Option gIt) (x1 x2 x3 x4 : Int32) (st : (Nat → Nat) × Nat) (hb : gbd F st) : ∀ (d f k : Nat) (M : gIt), k + d = P → d < f → mst M (gv S (part / n) k st) → frL M0 M → ∃ M', p_X12_lets_171 K88 x1 x2 x3 x4 (nI part) (nI S) (nI n) f M (nI k) = K88 M' (x4 + 1) ∧ mst M' (gv S (part / n) P st) ∧ frL M0 M' := by
  intro d
  have hdv : part / n ≤ part := Nat.div_le_self _ _
  induction d with
  | zero =>
    intro f k M hk hf hm hfr
    obtain ⟨f, rfl⟩ : ∃ q, f = q + 1 := ⟨f - 1, by omega⟩
    have : k = P := by omega
    subst this
    refine ⟨M, ?_, hm, hfr⟩
    unfold p_X12_lets_171
    rw [hfr.2 3 (by decide), h3, if_pos (nI_le (by omega) (by omega))]
  | succ d ih =>
    intro f k M hk hf hm hfr
    obtain ⟨f, rfl⟩ : ∃ q, f = q + 1 := ⟨f - 1, by omega⟩
    unfold p_X12_lets_171
    rw [hfr.2 3 (by decide), h3, if_neg (nI_ge (by omega) (by omega)), x12_has (by omega) (by omega), gB_v, nI_1]
    by_cases c : S.testBit k = true
    · have n0 := hn0 k c
      have d1 : decide (¬ nI n = 0) = true := by rw [decide_eq_true_eq]; exact nI_ne0 (by omega) (by omega)
      obtain ⟨M', e', m', f'⟩ := x12_gives hF (gbd_v hb k) hm hfr (each := part / n) (by omega) (o := k) (by omega)
      rw [if_neg (by rw [c]; decide), gck_t d1, pk_div (by omega) (by omega) (by omega), e', gB_v]
      refine ih f (k + 1) M' (by omega) (by omega) ?_ f'
      unfold gv
      rw [if_pos c]
      exact m'
    · rw [if_pos (by rw [if_neg c])]
      refine ih f (k + 1) M (by omega) (by omega) ?_ hfr
      unfold gv
      rw [if_neg c]
      exact hm
theorem tkS_sub {I : gIt} {P A s y o : Nat} (h : (tkS I P A s y).testBit o = true) : A.testBit o = true := by
  unfold tkS at h
  by_cases c : (I (17 + 6 * s) y).toNatClampNeg < 16
  · rw [if_pos c] at h; exact (tb_and.mp h).1
  · rw [if_neg c] at h; unfold cs at h; exact (tb_and.mp h).2
theorem tkS_lt {I : gIt} {P A s y : Nat} (hA : A < 65536) : tkS I P A s y < 65536 := by
  unfold tkS
  by_cases c : (I (17 + 6 * s) y).toNatClampNeg < 16
  · rw [if_pos c]; exact lt_and hA
  · rw [if_neg c]; exact Nat.lt_of_le_of_lt Nat.and_le_right hA
theorem tb16 {A o : Nat} (hA : A < 65536) (ho : 16 ≤ o) : A.testBit o = false := Nat.testBit_lt_two_pow (Nat.lt_of_lt_of_le hA (show 2 ^ 16 ≤ 2 ^ o from Nat.pow_le_pow_right (by omega) ho))
theorem alv_P {I : gIt} {P : Nat} {t : Int32} {A : Nat} (h : alv I P t A) {o : Nat} (ho : P ≤ o) : A.testBit o = false := by
  cases e : A.testBit o with
  | false => rfl
  | true =>
    by_cases c : o < 16
    · have := h.2 o c e
      unfold thr at this
      rw [decide_eq_true_eq] at this
      omega
    · rw [tb16 h.1 (by omega)] at e; exact absurd e (by decide)
theorem x12_lets_88 {M : gIt} {P : Nat} {t : Int32} {A s k F a n : Nat} (hP : P ≤ 16) (h3 : M 149 3 = nI P) (hp : ∀ o, o < P → iPer1 M o) (hA : alv M P t A) (hs : s < 10) (hk8 : k < 8) (e157 : M 157 s = nI F) (e14 : M (14 + 6 * s) 5 = nI F) (hF : F ≤ 100000) (e161 : M 161 (8 * s + k) = nI n) (hn4 : n ≤ 4) (hx : ∀ x, x < n → ∃ w d, w < 32 ∧ 1 ≤ d ∧ d ≤ 9 ∧ M (17 + 6 * s) (a + x) = nI w ∧ M (18 + 6 * s) (a + x) = nI d ∧ M 164 (4 * (8 * s + k) + x) = (if 16 ≤ w then 1 else 0) ∧ M 165 (4 * (8 * s + k) + x) = nI (w % 16) ∧ M 166 (4 * (8 * s + k) + x) = nI d) (st : (Nat → Nat) × Nat) (hb : gbd F st) : ∀ (d f x : Nat) (M1 : gIt), x + d = n → d < f → mst M1 (gsh M P A s a x st) → frL M M1 → ∃ M', p_X12_lets_88 (nI s) (nI A) (nI (8 * s + k)) f M1 (nI (4 * (8 * s + k) + x)) = some M' ∧ mst M' (gsh M P A s a n st) ∧ frL M M' := by
  intro d
  have e4 : (4 : Int32) * nI (8 * s + k) + nI n = nI (4 * (8 * s + k) + n) := by show nI 4 * _ + _ = _; rw [pk_mul, nI_add]
  induction d with
  | zero =>
    intro f x M1 hxd hf hm hfr
    obtain ⟨f, rfl⟩ : ∃ q, f = q + 1 := ⟨f - 1, by omega⟩
    have : x = n := by omega
    subst this
    refine ⟨M1, ?_, hm, hfr⟩
    unfold p_X12_lets_88
    rw [gck_t (gin_nI (by omega) (by omega)), nI_clamp (by omega), hfr.1 161 (by decide) (by decide) (by decide), e161, e4, if_pos (nI_le (by omega) (by omega))]
  | succ d ih =>
    intro f x M1 hxd hf hm hfr
    obtain ⟨f, rfl⟩ : ∃ q, f = q + 1 := ⟨f - 1, by omega⟩
    obtain ⟨w, dv, w1, w2, w3, w4, w5, w6, w7, w8⟩ := hx x (by omega)
    have g : gin (nI (4 * (8 * s + k) + x)) 320 = true := gin_nI (by omega) (by omega)
    have hk := frL_keep hfr
    have hA16 := hA.1
    have d1 : decide (¬ nI dv = 0) = true := by rw [decide_eq_true_eq]; exact nI_ne0 (by omega) (by omega)
    unfold p_X12_lets_88
    rw [gck_t (gin_nI (by omega) (by omega)), nI_clamp (by omega), hfr.1 161 (by decide) (by decide) (by decide), e161, e4, if_neg (nI_ge (by omega) (by omega)), gck_t (gin_nI (by omega) (by omega)), gck_t g, nI_clamp (show 4 * (8 * s + k) + x < 2 ^ 31 by omega), nI_clamp (show s < 2 ^ 31 by omega), hfr.1 166 (by decide) (by decide) (by decide), w8, gck_t d1, hfr.1 157 (by decide) (by decide) (by decide), e157, pk_div (by omega) (by omega) (by omega), gL_b, gck_t g, hfr.1 164 (by decide) (by decide) (by decide), w6, hfr.1 165 (by decide) (by decide) (by decide), w7]
    have eS : (if (if 16 ≤ w then (1 : Int32) else 0) = 0 then gck (gin (nI (4 * (8 * s + k) + x)) 320) (some (nI A &&& (gshl (1 : Int32) (nI (w % 16))))) else gck (gin (nI (4 * (8 * s + k) + x)) 320) (gB (p_X12_childrenOf M1 (nI (w % 16)) (1999 : Int32)) fun r34 => some (r34 &&& nI A))) = some (nI (tkS M P A s (a + x))) := by
      unfold tkS
      rw [w4, nI_clamp (by omega)]
      by_cases c : w < 16
      · rw [if_neg (show ¬ 16 ≤ w by omega), if_pos rfl, gck_t g, if_pos c, show w % 16 = w by omega, shl1 (by omega), nI_and]
      · rw [if_pos (show 16 ≤ w by omega), if_neg (by decide), gck_t g, if_neg c, x12_childrenOf hP (by rw [hk.2.2.2.2.2.1]; exact h3) (fun o ho => by rw [iPer1_k hk]; exact hp o ho), gB_v, chd_k hk, nI_and, show w % 16 = w - 16 by omega]
        rfl
    rw [eS, gB_v, x12_sizeOf (tkS_lt hA16), gB_v]
    have gl := gpc_le 16 (tkS M P A s (a + x))
    have hF1 : F / dv ≤ F := Nat.div_le_self _ _
    have eE : tkE M P A s (a + x) = F / dv / gpc 16 (tkS M P A s (a + x)) := by unfold tkE; rw [e14, w5, nI_clamp (by omega), nI_clamp (by omega)]
    obtain ⟨M', e', m', f'⟩ := x12_lets_171 (M0 := M) hP h3 (F := F) (by omega) (part := F / dv) (by omega) (tkS_lt hA16 : tkS M P A s (a + x) < 65536) gl (fun q hq h0 => by rw [gpc_eq0 (tkS_lt hA16) h0, Nat.zero_testBit] at hq; exact absurd hq (by decide)) (fun I x4 => p_X12_lets_88 (nI s) (nI A) (nI (8 * s + k)) f I x4) (nI s) (nI A) (nI (8 * s + k)) (nI (4 * (8 * s + k) + x)) (gsh M P A s a x st) (gbd_s hb x) P gFu 0 M1 (by omega) (by unfold gFu; omega) hm hfr
    rw [show p_X12_lets_171 (fun I x4 => p_X12_lets_88 (nI s) (nI A) (nI (8 * s + k)) f I x4) (nI s) (nI A) (nI (8 * s + k)) (nI (4 * (8 * s + k) + x)) (nI (F / dv)) (nI (tkS M P A s (a + x))) (nI (gpc 16 (tkS M P A s (a + x)))) gFu M1 0 = _ from e']
    show ∃ M'', p_X12_lets_88 (nI s) (nI A) (nI (8 * s + k)) f M' (nI (4 * (8 * s + k) + x) + 1) = some M'' ∧ _
    rw [nI_1]
    refine ih f (x + 1) M' (by omega) (by omega) ?_ f'
    show mst M' (gv (tkS M P A s (a + x)) (tkE M P A s (a + x)) 16 (gsh M P A s a x st))
    have ev := gv_up (S := tkS M P A s (a + x)) (each := F / dv / gpc 16 (tkS M P A s (a + x))) (P := P) (gsh M P A s a x st) (fun o ho => by
      cases e : (tkS M P A s (a + x)).testBit o with
      | false => rfl
      | true => exact absurd (tkS_sub e) (by rw [alv_P hA ho]; decide)) (16 - P)
    rw [show P + (16 - P) = 16 by omega] at ev
    rw [eE, ev]
    exact m'
theorem x12_lets {M : gIt} {P : Nat} {t : Int32} {A s : Nat} (hP : P ≤ 16) (h3 : M 149 3 = nI P) (hp : ∀ o, o < P → iPer1 M o) (hA : alv M P t A) (hs : s < 10) (hset : iSet1 M P s) : ∃ M', p_X12_lets M (nI s) (nI A) = some M' ∧ mst M' (fallOf M P A s) ∧ frL M M' := by
  obtain ⟨C, hC1, hC, eC, eC', hcl⟩ := set_cl hset
  obtain ⟨⟨e157, f1, f2⟩, -⟩ := id hset
  obtain ⟨F, -, eF, tF⟩ := i_of (x := M (14 + 6 * s) 5) (by omega)
  have e8 : (8 : Int32) * nI s + nI C = nI (8 * s + C) := by show nI 8 * _ + _ = _; rw [pk_mul, nI_add]
  have fb : gbd F ((fun _ => 0 : Nat → Nat), F) := fun o => by dsimp only; omega
  -- behind the first clause that holds
  have go : ∀ (k : Nat) (M1 : gIt), k < C → mst M1 (fun _ => 0, F) → frL M M1 → ∃ M', p_X12_lets_88 (nI s) (nI A) (nI (8 * s + k)) gFu M1 (4 * nI (8 * s + k)) = some M' ∧ mst M' (gsh M P A s (gEnd (M (15 + 6 * s)) k) (gEnd (M (15 + 6 * s)) (k + 1) - gEnd (M (15 + 6 * s)) k) (fun _ => 0, F)) ∧ frL M M' := by
    intro k M1 hk hm hfr
    obtain ⟨⟨n, n1, n2, n3, n4, n5, n6⟩, -⟩ := hcl k hk
    rw [n5, show gEnd (M (15 + 6 * s)) k + n - gEnd (M (15 + 6 * s)) k = n by omega, show (4 : Int32) * nI (8 * s + k) = nI (4 * (8 * s + k) + 0) by show nI 4 * _ = _; rw [pk_mul, Nat.add_zero]]
    exact x12_lets_88 hP h3 hp hA hs (by omega) (e157.trans eF) eF (by omega) n2 n1 n6 (fun _ => 0, F) fb n gFu 0 M1 (by omega) (by unfold gFu; omega) hm hfr
  have l36 : ∀ (d f k : Nat) (M1 : gIt), k + d = C → d < f → mst M1 (fun _ => 0, F) → frL M M1 → ∃ M', p_X12_lets_36 (nI s) (nI A) f M1 (nI (8 * s + k)) = some M' ∧ mst M' (if frs (hold M P A s) d k = C then (fun _ => 0, F) else gsh M P A s (gEnd (M (15 + 6 * s)) (frs (hold M P A s) d k)) (gEnd (M (15 + 6 * s)) (frs (hold M P A s) d k + 1) - gEnd (M (15 + 6 * s)) (frs (hold M P A s) d k)) (fun _ => 0, F)) ∧ frL M M' := by
    intro d
    induction d with
    | zero =>
      intro f k M1 hk hf hm hfr
      obtain ⟨f, rfl⟩ : ∃ q, f = q + 1 := ⟨f - 1, by omega⟩
      have : k = C := by omega
      subst this
      unfold p_X12_lets_36 frs
      rw [gck_t (gin_nI (by omega) (by omega)), nI_clamp (by omega), hfr.1 160 (by decide) (by decide) (by decide), eC', e8, if_pos (nI_le (by omega) (by omega)), gck_t (gin_nI (by omega) (by omega)), if_pos rfl, if_pos rfl]
      exact ⟨M1, rfl, hm, hfr⟩
    | succ d ih =>
      intro f k M1 hk hf hm hfr
      obtain ⟨f, rfl⟩ : ∃ q, f = q + 1 := ⟨f - 1, by omega⟩
      obtain ⟨M2, e2, k2, r2⟩ := x12_meets hP h3 hp hA.1 hs hset hC eC' (k := k) (by omega) (frL_keep hfr)
      have hfr2 := frL_tr hfr (fr170_L r2)
      have hm2 := mst_170 r2 hm
      unfold p_X12_lets_36 frs
      rw [gck_t (gin_nI (by omega) (by omega)), nI_clamp (by omega), hfr.1 160 (by decide) (by decide) (by decide), eC', e8, if_neg (nI_ge (by omega) (by omega)), e2, gB_v, nI_1]
      dsimp only
      by_cases c : hold M P A s k = true
      · rw [if_pos c, if_pos c, if_neg (by decide), gck_t (gin_nI (by omega) (by omega)), if_neg (show ¬ nI (8 * s + k) = 8 * nI s + M2 160 s from fun q => by rw [hfr2.1 160 (by decide) (by decide) (by decide), eC', e8, nI_eq (by omega) (by omega)] at q; omega), if_neg (by omega), gL_b]
        exact go k M2 (by omega) hm2 hfr2
      · rw [if_neg c, if_neg c, if_pos rfl]
        exact ih f (k + 1) M2 (by omega) (by omega) hm2 hfr2
  have l2 : ∀ (d f k : Nat) (M1 : gIt), k + d = 16 → d < f → frL M M1 → (∀ o, o < k → M1 171 o = 0) → ∃ M', p_X12_lets_2 (nI s) (nI A) f M1 (nI k) = some M' ∧ mst M' (fallOf M P A s) ∧ frL M M' := by
    intro d
    induction d with
    | zero =>
      intro f k M1 hk hf hfr h0
      obtain ⟨f, rfl⟩ : ∃ q, f = q + 1 := ⟨f - 1, by omega⟩
      have : k = 16 := by omega
      subst this
      unfold p_X12_lets_2
      rw [if_pos (show (16 : Int32) ≤ nI 16 by decide), gck_t (gin_nI (by omega) (by omega)), nI_clamp (by omega), hfr.1 157 (by decide) (by decide) (by decide), e157, eF, gL_b, gL_b, gL_b, show (8 : Int32) * nI s = nI (8 * s + 0) by show nI 8 * _ = _; rw [pk_mul, Nat.add_zero]]
      have efall : fallOf M P A s = if frs (hold M P A s) C 0 = C then (fun _ => 0, F) else gsh M P A s (gEnd (M (15 + 6 * s)) (frs (hold M P A s) C 0)) (gEnd (M (15 + 6 * s)) (frs (hold M P A s) C 0 + 1) - gEnd (M (15 + 6 * s)) (frs (hold M P A s) C 0)) (fun _ => 0, F) := by
        unfold fallOf
        dsimp only
        rw [eC, eF, nI_clamp (by omega), nI_clamp (by omega)]
      rw [efall]
      exact l36 C gFu 0 _ (by omega) (by unfold gFu; omega) ⟨by rw [gu_sl, if_pos rfl], fun o ho => by rw [gu_rd (by decide)]; exact h0 o ho⟩ ⟨fun x h1 h2 h3 => by rw [gu2_ne h3]; exact hfr.1 x h1 h2 h3, fun j hj => by rw [gu_sl, if_neg hj]; exact hfr.2 j hj⟩
    | succ d ih =>
      intro f k M1 hk hf hfr h0
      obtain ⟨f, rfl⟩ : ∃ q, f = q + 1 := ⟨f - 1, by omega⟩
      unfold p_X12_lets_2
      rw [if_neg (show ¬ (16 : Int32) ≤ nI k from nI_ge (b := 16) (by omega) (by omega)), gck_t (gin_nI (by omega) (by omega)), nI_clamp (by omega), gL_b, nI_1]
      refine ih f (k + 1) _ (by omega) (by omega) ⟨fun x h1 h2 h3 => by rw [gu2_ne h2]; exact hfr.1 x h1 h2 h3, fun j hj => by rw [gu_rd (by decide)]; exact hfr.2 j hj⟩ (fun o ho => ?_)
      rw [gu_sl]
      by_cases e : o = k
      · rw [if_pos e]
      · rw [if_neg e]; exact h0 o (by omega)
  unfold p_X12_lets
  exact l2 16 gFu 0 M (by omega) (by unfold gFu; omega) (frL_rf M) (fun o ho => by omega)
