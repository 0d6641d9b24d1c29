/-! ===== the reference: does a clause hold; what it lets ===== -/
def vs (I : gIt) : List Bool → Prop
  | [] => True
  | b :: r => I 170 r.length = (if b then 1 else 0) ∧ vs I r
def fr170 (M0 M : gIt) : Prop := ∀ x, x ≠ 170 → M x = M0 x
theorem vs_w {I : gIt} {k : Nat} {v : Int32} : ∀ {st : List Bool}, st.length ≤ k → vs I st → vs (gu2 I 170 k v) st := by
  intro st
  induction st with
  | nil => intro _ _; exact trivial
  | cons b r ih =>
    intro hl h
    rw [List.length_cons] at hl
    refine ⟨?_, ih (by omega) h.2⟩
    rw [gu_sl, if_neg (by omega)]
    exact h.1
theorem vs_put {I : gIt} {st : List Bool} {b : Bool} (h : vs I st) : vs (gu2 I 170 st.length (if b then 1 else 0)) (b :: st) := ⟨by rw [gu_sl, if_pos rfl], vs_w (Nat.le_refl _) h⟩
theorem chd_k {I I' : gIt} (h : gkeep I I') (P : Nat) (t : Int32) (q : Nat) : chd I' P t q = chd I P t q := by
  funext o
  unfold chd thr
  rw [h.1 3 (by unfold gco; omega), h.1 4 (by unfold gco; omega)]
theorem gf170 (j : Nat) : gfree 170 j := by unfold gfree gco; omega
theorem gf171 (j : Nat) : gfree 171 j := by unfold gfree gco; omega
theorem gf39 : gfree 149 39 := by unfold gfree gco; omega
theorem nb01 (b : Bool) : vp_nar .boolean (if b then (1 : Int32) else 0) = if b then 1 else 0 := by cases b <;> rfl
theorem nb0 : vp_nar .boolean (0 : Int32) = 0 := rfl
theorem nb1 : vp_nar .boolean (1 : Int32) = 1 := rfl
theorem x12_meets_33 {M M0 : gIt} {P A : Nat} (hP : P ≤ 16) (h3 : M 149 3 = nI P) (hp : ∀ o, o < P → iPer1 M o) (hA : A < 65536) {s k e n : Nat} (hs : s < 10) (hk8 : k < 8) (e163 : M 163 (8 * s + k) = nI (e + n)) (hen : e + n ≤ 100) (hw : ∀ i, i < e + n → gword (M (19 + 6 * s) i) ∧ M 167 (100 * s + i) = gmc (M (19 + 6 * s) i) ∧ M 168 (100 * s + i) = gma (M (19 + 6 * s) i)) (hg : gdep (M (19 + 6 * s)) e n = some 1) : ∀ (d f j : Nat) (M1 : gIt), j + d = n → d < f → gkeep M M1 → fr170 M0 M1 → vs M1 (ev (tru M P A) (M (19 + 6 * s)) e j) → ∃ M2, p_X12_meets_33 (nI s) (nI (8 * s + k)) (nI A) f M1 (nI (ev (tru M P A) (M (19 + 6 * s)) e j).length) (nI (100 * s + (e + j))) = some ((if hd (ev (tru M P A) (M (19 + 6 * s)) e n) then 1 else 0), M2) ∧ gkeep M M2 ∧ fr170 M0 M2 := by
  intro d
  have e100 : (100 : Int32) * nI s + nI (e + n) = nI (100 * s + (e + n)) := by show nI 100 * nI s + _ = _; rw [pk_mul, nI_add]
  induction d with
  | zero =>
    intro f j M1 hj hf hk hfr hv
    obtain ⟨f, rfl⟩ : ∃ q, f = q + 1 := ⟨f - 1, by omega⟩
    have : j = n := by omega
    subst this
    refine ⟨M1, ?_, hk, hfr⟩
    unfold p_X12_meets_33
    rw [gck_t (gin_nI (by omega) (by omega)), nI_clamp (by omega), hk.1 163 (by unfold gco; omega), e163, e100, if_pos (nI_le (by omega) (by omega)), gck_t (by decide)]
    have e1 := ev_one (T := tru M P A) hg
    generalize hd (ev (tru M P A) (M (19 + 6 * s)) e j) = b at e1 ⊢
    rw [e1] at hv
    have z : M1 170 (0 : Int32).toNatClampNeg = if b then 1 else 0 := hv.1
    rw [z, gck_t (by cases b <;> decide)]
  | succ d ih =>
    intro f j M1 hj hf hk hfr hv
    obtain ⟨f, rfl⟩ : ∃ q, f = q + 1 := ⟨f - 1, by omega⟩
    obtain ⟨d1, hd1⟩ := gdep_le hg (j + 1) (by omega)
    obtain ⟨d0, hd0⟩ := gdep_pre hd1
    obtain ⟨l0, l1⟩ := ev_len (T := tru M P A) hd0
    obtain ⟨w1, w2, w3⟩ := hw (e + j) (by omega)
    have g : gin (nI (100 * s + (e + j))) 1000 = true := gin_nI (by omega) (by omega)
    have nx := fun M2 => ih f (j + 1) M2 (by omega) (by omega)
    have es := ev_step hd1 (T := tru M P A)
    have eS : ev (tru M P A) (M (19 + 6 * s)) e (j + 1) = ew (tru M P A) (M (19 + 6 * s) (e + j)) (ev (tru M P A) (M (19 + 6 * s)) e j) := rfl
    rw [eS] at nx
    unfold p_X12_meets_33
    rw [gck_t (gin_nI (by omega) (by omega)), nI_clamp (by omega), hk.1 163 (by unfold gco; omega), e163, e100, if_neg (nI_ge (by omega) (by omega)), gck_t g, nI_clamp (by omega), gL_b, hk.1 167 (by unfold gco; omega), hk.1 168 (by unfold gco; omega), w2, w3, nI_1, show nI (100 * s + (e + j) + 1) = nI (100 * s + (e + (j + 1))) from rfl]
    generalize hc : M (19 + 6 * s) (e + j) = c at *
    generalize hst : ev (tru M P A) (M (19 + 6 * s)) e j = st at *
    rcases es with ⟨c1, a, r, rfl⟩ | ⟨c1, c2, a, b, r, rfl⟩ | ⟨c1, c2, c3, hn⟩
    · -- not
      have q : gmc c = 6 := by unfold gmc; rw [if_pos c1]
      rw [q, if_neg (by decide), if_neg (by decide), if_pos rfl]
      rw [List.length_cons] at l0 ⊢
      have i1 : nI (r.length + 1) - 1 = nI r.length := nI_back _
      rw [i1, gck_t (gin_nI (by omega) (by omega)), nI_clamp (by omega), hv.1, gck_t (gin_nI (by omega) (by omega)), gL_b, gck_t (gin_nI (by omega) (by omega)), gL_b, nb0, nb1]
      have ee : ew (tru M P A) c (a :: r) = (!a) :: r := by unfold ew; rw [if_pos c1]
      rw [ee] at nx
      have := nx (gu2 M1 170 r.length (if (!a) then 1 else 0)) (gkeep_tr hk (gkeep_w (gf170 _))) (fun x hx => by rw [gu2_ne hx]; exact hfr x hx) (vs_put hv.2)
      rw [List.length_cons] at this
      cases a
      · rw [if_pos (by decide)]; exact this
      · rw [if_neg (by decide)]; exact this
    · -- and, or
      rw [List.length_cons, List.length_cons] at l0 ⊢
      have i1 : nI (r.length + 1 + 1) + (-1) = nI (r.length + 1) := pk_m1 _
      have i2 : nI (r.length + 1) - 1 = nI r.length := nI_back _
      have g1 : gin (nI (r.length + 1)) 120 = true := gin_nI (by omega) (by omega)
      have g2 : gin (nI r.length) 120 = true := gin_nI (by omega) (by omega)
      have v1 : M1 170 (nI (r.length + 1)).toNatClampNeg = if a then 1 else 0 := by rw [nI_clamp (by omega)]; exact hv.1
      have v2 : M1 170 (nI r.length).toNatClampNeg = if b then 1 else 0 := by rw [nI_clamp (by omega)]; exact hv.2.1
      simp only [i1, i2, gck_t g1, gck_t g2, gL_b, nb0, nb1, v1, v2]
      rw [nI_clamp (show r.length < 2 ^ 31 by omega)]
      rcases c2 with c2 | c2
      · have q : gmc c = 38 := by unfold gmc; rw [if_neg c1, if_pos c2]
        have ee : ew (tru M P A) c (a :: b :: r) = (b && a) :: r := by unfold ew; rw [if_neg c1, if_pos c2]
        rw [ee] at nx
        have := nx (gu2 M1 170 r.length (if (b && a) then 1 else 0)) (gkeep_tr hk (gkeep_w (gf170 _))) (fun x hx => by rw [gu2_ne hx]; exact hfr x hx) (vs_put hv.2.2)
        rw [List.length_cons] at this
        rw [q, if_pos rfl, if_pos rfl]
        cases a <;> cases b <;> exact this
      · have c2' : ¬ c = -2 := by rw [c2]; decide
        have q : gmc c = 124 := by unfold gmc; rw [if_neg c1, if_neg c2', if_pos c2]
        have ee : ew (tru M P A) c (a :: b :: r) = (b || a) :: r := by unfold ew; rw [if_neg c1, if_neg c2', if_pos c2]
        rw [ee] at nx
        have := nx (gu2 M1 170 r.length (if (b || a) then 1 else 0)) (gkeep_tr hk (gkeep_w (gf170 _))) (fun x hx => by rw [gu2_ne hx]; exact hfr x hx) (vs_put hv.2.2)
        rw [List.length_cons] at this
        rw [q, if_neg (by decide), if_pos rfl, if_neg (by decide)]
        cases a <;> cases b <;> exact this
    · -- a truth
      have ee : ew (tru M P A) c st = tru M P A c :: st := by unfold ew; rw [if_neg c1, if_neg c2, if_neg c3]
      rw [ee] at nx
      have hth := nx (gu2 M1 170 st.length (if tru M P A c then 1 else 0)) (gkeep_tr hk (gkeep_w (gf170 _))) (fun x hx => by rw [gu2_ne hx]; exact hfr x hx) (vs_put hv)
      rw [List.length_cons] at hth
      have gst : gin (nI st.length) 120 = true := gin_nI (by omega) (by omega)
      rw [x12_sizeOf hA, gB_v, nI_1]
      simp only [gck_t g, gck_t gst, gL_b, nb0, nb1, nI_clamp (show st.length < 2 ^ 31 by omega)]
      -- which kind
      rcases w1 with w1 | w1 | w1 | w1 | w1
      · exact absurd w1 c1
      · exact absurd w1 c2
      · exact absurd w1 c3
      · obtain ⟨w, hw', ew', tw⟩ := i_of w1.1
        have hgm : gmc c = (if w < 16 then 1 else 2) ∧ gma c = nI (w % 16) ∧ tru M P A c = (if w < 16 then A.testBit w else !decide (cs M P A (w - 16) = 0)) := by
          by_cases q : w < 16
          · rcases gword_or (Or.inr (Or.inr (Or.inr (Or.inl w1)))) with ⟨v, v1, v2, v3, v4⟩ | ⟨v, v1, v2, v3, v4⟩ | ⟨v1, -⟩
            · rw [ew', nI_eq (by omega) (by omega)] at v2
              rw [if_pos q, if_pos q, v4, ← v2]
              refine ⟨v3, by congr 1; omega, ?_⟩
              unfold tru
              rw [ew', if_pos (show nI w < (16 : Int32) from nI_lt (b := 16) q (by omega)), nI_clamp (by omega)]
            · rw [ew', nI_eq (by omega) (by omega)] at v2; omega
            · exact absurd ew' (v1 w (by omega))
          · rcases gword_or (Or.inr (Or.inr (Or.inr (Or.inl w1)))) with ⟨v, v1, v2, v3, v4⟩ | ⟨v, v1, v2, v3, v4⟩ | ⟨v1, -⟩
            · rw [ew', nI_eq (by omega) (by omega)] at v2; omega
            · rw [ew', nI_eq (by omega) (by omega)] at v2
              rw [if_neg q, if_neg q, v4]
              refine ⟨v3, by congr 1; omega, ?_⟩
              unfold tru
              rw [ew', if_neg (show ¬ nI w < (16 : Int32) from nI_nlt (b := 16) (by omega) (by omega)), if_pos (show nI w < (32 : Int32) from nI_lt (b := 32) (by omega) (by omega)), show nI w - (16 : Int32) = nI (w - 16) from pk_sub (b := 16) (by omega), nI_clamp (by omega)]
            · exact absurd ew' (v1 w (by omega))
        obtain ⟨m1, m2, m3⟩ := hgm
        by_cases q : w < 16
        · rw [if_pos q] at m1 m3
          rw [m3] at hth
          rw [m1, m2, if_neg (by decide), if_neg (by decide), if_neg (by decide), if_pos rfl, show w % 16 = w by omega, x12_has (by omega) (by omega), gB_v, nb01]
          exact hth
        · rw [if_neg q] at m1 m3
          rw [m3] at hth
          rw [m1, m2, if_neg (by decide), if_neg (by decide), if_neg (by decide), if_neg (by decide), if_pos rfl, x12_childrenOf hP (by rw [hk.2.2.2.2.2.1]; exact h3) (fun o ho => by rw [iPer1_k hk]; exact hp o ho), gB_v, chd_k hk, nI_and, show w % 16 = w - 16 by omega]
          have ecs : gM (chd M P 1999 (w - 16)) 16 &&& A = cs M P A (w - 16) := rfl
          have lcs : cs M P A (w - 16) < 65536 := lt_and (gM_16 _)
          rw [ecs]
          by_cases z : cs M P A (w - 16) = 0
          · rw [if_pos (show nI (cs M P A (w - 16)) = 0 by rw [z]; rfl)]
            simp only [decide_eq_true z, Bool.not_true, Bool.false_eq_true, if_false] at hth
            exact hth
          · rw [if_neg (show ¬ nI (cs M P A (w - 16)) = 0 from fun y => z ((nI_inj (by omega) (by omega)).mp (show nI (cs M P A (w - 16)) = nI 0 from y)))]
            simp only [decide_eq_false z, Bool.not_false, if_true] at hth
            exact hth
      · have n16 : ¬ c < 16 := by rw [Int32.lt_iff_toInt_lt]; simp only [Int32.reduceToInt]; omega
        have n32 : ¬ c < 32 := by rw [Int32.lt_iff_toInt_lt]; simp only [Int32.reduceToInt]; omega
        have n0 : ¬ c < 0 := by rw [Int32.lt_iff_toInt_lt]; simp only [Int32.reduceToInt]; omega
        unfold tru at hth
        rw [if_neg n16, if_neg n32] at hth
        by_cases q1 : c.toInt < 200
        · have n200 : c < 200 := by rw [Int32.lt_iff_toInt_lt]; simp only [Int32.reduceToInt]; omega
          have m1 : gmc c = 3 := by unfold gmc; rw [if_neg c1, if_neg c2, if_neg c3, if_neg n16, if_neg n32, if_pos n200]
          have m2 : gma c = c - 100 := by unfold gma; rw [if_neg n0, if_neg n16, if_neg n32, if_pos n200]
          rw [if_pos n200] at hth
          rw [m1, m2, if_neg (by decide), if_neg (by decide), if_neg (by decide), if_neg (by decide), if_neg (by decide), if_pos rfl]
          by_cases z : (c - (100 : Int32)) ≤ nI (gpc 16 A)
          · have z' : ¬ nI (gpc 16 A) < c - 100 := by rw [Int32.le_iff_toInt_le] at z; rw [Int32.lt_iff_toInt_lt]; omega
            rw [if_pos z]
            simp only [decide_eq_false z', Bool.false_eq_true, if_false] at hth
            exact hth
          · have z' : nI (gpc 16 A) < c - 100 := by rw [Int32.le_iff_toInt_le] at z; rw [Int32.lt_iff_toInt_lt]; omega
            rw [if_neg z]
            simp only [decide_eq_true z', if_true] at hth
            exact hth
        · have n200 : ¬ c < 200 := by rw [Int32.lt_iff_toInt_lt]; simp only [Int32.reduceToInt]; omega
          rw [if_neg n200] at hth
          by_cases q2 : c.toInt < 300
          · have n300 : c < 300 := by rw [Int32.lt_iff_toInt_lt]; simp only [Int32.reduceToInt]; omega
            have m1 : gmc c = 4 := by unfold gmc; rw [if_neg c1, if_neg c2, if_neg c3, if_neg n16, if_neg n32, if_neg n200, if_pos n300]
            have m2 : gma c = c - 200 := by unfold gma; rw [if_neg n0, if_neg n16, if_neg n32, if_neg n200, if_pos n300]
            rw [if_pos n300] at hth
            rw [m1, m2, if_neg (by decide), if_neg (by decide), if_neg (by decide), if_neg (by decide), if_neg (by decide), if_neg (by decide), if_pos rfl]
            by_cases z : nI (gpc 16 A) ≤ (c - (200 : Int32))
            · have z' : ¬ c - 200 < nI (gpc 16 A) := by rw [Int32.le_iff_toInt_le] at z; rw [Int32.lt_iff_toInt_lt]; omega
              rw [if_pos z]
              simp only [decide_eq_false z', Bool.false_eq_true, if_false] at hth
              exact hth
            · have z' : c - 200 < nI (gpc 16 A) := by rw [Int32.le_iff_toInt_le] at z; rw [Int32.lt_iff_toInt_lt]; omega
              rw [if_neg z]
              simp only [decide_eq_true z', if_true] at hth
              exact hth
          · have n300 : ¬ c < 300 := by rw [Int32.lt_iff_toInt_lt]; simp only [Int32.reduceToInt]; omega
            have m1 : gmc c = 5 := by unfold gmc; rw [if_neg c1, if_neg c2, if_neg c3, if_neg n16, if_neg n32, if_neg n200, if_neg n300]
            have m2 : gma c = c - 300 := by unfold gma; rw [if_neg n0, if_neg n16, if_neg n32, if_neg n200, if_neg n300]
            rw [if_neg n300] at hth
            rw [m1, m2, if_neg (by decide), if_neg (by decide), if_neg (by decide), if_neg (by decide), if_neg (by decide), if_neg (by decide), if_neg (by decide)]
            by_cases z : nI (gpc 16 A) = (c - (300 : Int32))
            · rw [if_pos z]
              simp only [decide_eq_true z, if_true] at hth
              exact hth
            · rw [if_neg z]
              simp only [decide_eq_false z, Bool.false_eq_true, if_false] at hth
              exact hth
theorem x12_meets {M M1 : gIt} {P A : Nat} (hP : P ≤ 16) (h3 : M 149 3 = nI P) (hp : ∀ o, o < P → iPer1 M o) (hA : A < 65536) {s k : Nat} (hs : s < 10) (hset : iSet1 M P s) {C : Nat} (hC : C ≤ 8) (eC : M 160 s = nI C) (hk : k < C) (hkp : gkeep M M1) : ∃ M2, p_X12_meets M1 (nI s) (nI (8 * s + k)) (nI A) = some ((if hold M P A s k then 1 else 0), M2) ∧ gkeep M M2 ∧ fr170 M1 M2 := by
  obtain ⟨C', -, hC', -, eC', hcl⟩ := set_cl hset
  have : C' = C := by rw [eC'] at eC; rw [nI_eq (by omega) (by omega)] at eC; omega
  subst this
  obtain ⟨-, n, n1, n2, n3, n4, n5, n6, n7⟩ := hcl k hk
  have eh : hold M P A s k = if n = 0 then true else hd (ev (tru M P A) (M (19 + 6 * s)) (gEnd (M (16 + 6 * s)) k) n) := by
    unfold hold
    rw [n5, show gEnd (M (16 + 6 * s)) k + n - gEnd (M (16 + 6 * s)) k = n by omega]
  unfold p_X12_meets
  rw [gck_t (gin_nI (by omega) (by omega)), gck_t (gin_nI (by omega) (by omega)), nI_clamp (by omega), hkp.1 162 (by unfold gco; omega), hkp.1 163 (by unfold gco; omega), n1, n2, eh]
  by_cases h0 : n = 0
  · rw [if_pos (by rw [h0]; rfl), if_pos h0]
    exact ⟨M1, rfl, hkp, fun x _ => rfl⟩
  · have e100 : (100 : Int32) * nI s + nI (gEnd (M (16 + 6 * s)) k) = nI (100 * s + gEnd (M (16 + 6 * s)) k) := by show nI 100 * nI s + _ = _; rw [pk_mul, nI_add]
    rw [if_neg (fun q => by rw [nI_eq (by omega) (by omega)] at q; omega), if_neg h0, gck_t (gin_nI (by omega) (by omega)), e100, gL_b]
    exact x12_meets_33 hP h3 hp hA hs (by omega) n2 n4 n7 (n6.resolve_left h0) n gFu 0 M1 (by omega) (by unfold gFu; omega) hkp (fun x _ => rfl) trivial
