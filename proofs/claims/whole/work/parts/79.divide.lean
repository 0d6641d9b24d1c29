/-! ===== the class: the first clause that holds; the shares ===== -/
/-- what is needed of a settlement -/
theorem set_cl {I : gIt} {P s : Nat} (h : iSet1 I P s) : ∃ C, 1 ≤ C ∧ C ≤ 8 ∧ I (14 + 6 * s) 8 = nI C ∧ I 160 s = nI C ∧ ∀ k, k < C →
    (∃ n, n ≤ 4 ∧ I 161 (8 * s + k) = nI n ∧ I (15 + 6 * s) k = nI (gEnd (I (15 + 6 * s)) k + n) ∧ gEnd (I (15 + 6 * s)) k + n ≤ 32 ∧ gEnd (I (15 + 6 * s)) (k + 1) = gEnd (I (15 + 6 * s)) k + n ∧
      ∀ x, x < n → ∃ t d, t < 32 ∧ 1 ≤ d ∧ d ≤ 9 ∧ I (17 + 6 * s) (gEnd (I (15 + 6 * s)) k + x) = nI t ∧ I (18 + 6 * s) (gEnd (I (15 + 6 * s)) k + x) = nI d ∧ I 164 (4 * (8 * s + k) + x) = (if 16 ≤ t then 1 else 0) ∧ I 165 (4 * (8 * s + k) + x) = nI (t % 16) ∧ I 166 (4 * (8 * s + k) + x) = nI d) ∧
    (∃ n, I 162 (8 * s + k) = nI (gEnd (I (16 + 6 * s)) k) ∧ I 163 (8 * s + k) = nI (gEnd (I (16 + 6 * s)) k + n) ∧ I (16 + 6 * s) k = nI (gEnd (I (16 + 6 * s)) k + n) ∧ gEnd (I (16 + 6 * s)) k + n ≤ 100 ∧ gEnd (I (16 + 6 * s)) (k + 1) = gEnd (I (16 + 6 * s)) k + n ∧ (n = 0 ∨ gdep (I (19 + 6 * s)) (gEnd (I (16 + 6 * s)) k) n = some 1) ∧
      ∀ i, i < gEnd (I (16 + 6 * s)) k + n → gword (I (19 + 6 * s) i) ∧ I 167 (100 * s + i) = gmc (I (19 + 6 * s) i) ∧ I 168 (100 * s + i) = gma (I (19 + 6 * s) i)) := by
  obtain ⟨-, -, -, C, hC1, hC, eC, eC', hcl, hwd, -, -⟩ := h
  refine ⟨C, hC1, hC, eC, eC', fun k hk => ?_⟩
  obtain ⟨⟨c, c1, c2, c3, c4, c5, c6⟩, n, n1, n2, n3, n4, n5⟩ := hcl k hk
  have mono : ∀ k, k ≤ C → gEnd (I (16 + 6 * s)) k ≤ gEnd (I (16 + 6 * s)) C := gEnd_le (fun k hk => by
    obtain ⟨-, n, -, -, z3, z4, -⟩ := hcl k hk
    exact ⟨n, z3, by omega⟩)
  have me := mono (k + 1) (by omega)
  rw [gEnd_s _ k (by omega) n3] at me
  refine ⟨⟨c, c2, c3, c4, by omega, gEnd_s _ k (by omega) c4, fun x hx => ?_⟩, n, n1, n2, n3, n4, gEnd_s _ k (by omega) n3, n5, fun i hi => hwd i (by omega)⟩
  obtain ⟨w, w1, w2, w3, w4, w5, w6, w7⟩ := c6 x hx
  obtain ⟨d, -, ed, td⟩ := i_of (x := I (18 + 6 * s) (gEnd (I (15 + 6 * s)) k + x)) (by omega)
  exact ⟨w, d, w1, by omega, by omega, w2, ed, w3, w4, w5.trans ed⟩
theorem ev_one {T : Int32 → Bool} {f : Nat → Int32} {i n : Nat} (h : gdep f i n = some 1) : ev T f i n = [hd (ev T f i n)] := by
  obtain ⟨l, -⟩ := ev_len (T := T) h
  generalize ev T f i n = st at l
  match st, l with
  | [b], _ => rfl
theorem x9_fh_42 {I r : gIt} {P A fc : Nat} (hA : A < 65536) (hf : fcs I P A fc) {s k e n : Nat} (hk8 : k < 8) (e16 : r (14 + 6 * s + 2) k = nI (e + n)) (e19 : r (14 + 6 * s + 5) = I (19 + 6 * s)) (hen : e + n ≤ 100) (hw : ∀ i, i < e + n → gword (I (19 + 6 * s) i)) (hg : gdep (I (19 + 6 * s)) e n = some 1) (K2 : Int32 → Option Int32) (x3 : Int32) : ∀ (d f j : Nat), j + d = n → d < f → p_X9_firstHolding_42 K2 r (14 + 6 * s) (nI fc) (nI k) x3 f (nI (enc (ev (tru I P A) (I (19 + 6 * s)) e j))) (nI (e + j)) = if hd (ev (tru I P A) (I (19 + 6 * s)) e n) then some (nI k) else K2 (nI (k + 1)) := by
  intro d
  induction d with
  | zero =>
    intro f j hj hf
    obtain ⟨f, rfl⟩ : ∃ q, f = q + 1 := ⟨f - 1, by omega⟩
    have : j = n := by omega
    subst this
    unfold p_X9_firstHolding_42
    rw [gck_t (gin_nI (by omega) (by omega)), nI_clamp (by omega), e16, if_pos (nI_le (by omega) (by omega)), nI_1]
    have e1 := ev_one (T := tru I P A) hg
    generalize hd (ev (tru I P A) (I (19 + 6 * s)) e j) = b at e1 ⊢
    rw [e1]
    cases b
    · rw [if_neg (by decide)]; rfl
    · rw [if_pos (by decide)]; rfl
  | succ d ih =>
    intro f j hj hf'
    obtain ⟨f, rfl⟩ : ∃ q, f = q + 1 := ⟨f - 1, by omega⟩
    obtain ⟨d1, hd1⟩ := gdep_le hg (j + 1) (by omega)
    obtain ⟨d0, hd0⟩ := gdep_pre hd1
    obtain ⟨l0, l1⟩ := ev_len (T := tru I P A) hd0
    unfold p_X9_firstHolding_42
    rw [gck_t (gin_nI (by omega) (by omega)), nI_clamp (by omega), e16, if_neg (nI_ge (by omega) (by omega)), if_neg (nI_ge (by omega) (by omega)), gck_t (gin_nI (by omega) (by omega)), nI_clamp (by omega), e19, x9_joined hA hf (hw _ (by omega)) (ev_step hd1) (by omega), gB_v, nI_1]
    exact ih f (j + 1) (by omega) (by omega)
theorem gEnd_nI {f : Nat → Int32} {k n : Nat} (hn : n < 2 ^ 31) (h : 0 < k → f (k - 1) = nI n) (h0 : 0 < k) : f (k - 1) = nI (gEnd f k) := by
  unfold gEnd
  rw [if_neg (by omega), h h0, nI_clamp hn]
theorem x9_fh_2 {I r : gIt} {P A fc : Nat} (hA : A < 65536) (hf : fcs I P A fc) {s : Nat} (hs : s < 10) (hset : iSet1 I P s) (hkp : gkeep I r) {C : Nat} (hC : C ≤ 8) (eC : I (14 + 6 * s) 8 = nI C) : ∀ (d f k : Nat), k + d = C → d < f → p_X9_firstHolding_2 r (14 + 6 * s) (nI fc) f (nI k) = some (if frs (hold I P A s) d k = C then -1 else nI (frs (hold I P A s) d k)) := by
  obtain ⟨C', -, hC', eC', -, hcl⟩ := set_cl hset
  have : C' = C := by rw [eC'] at eC; rw [nI_eq (by omega) (by omega)] at eC; omega
  subst this
  have e14 : r (14 + 6 * s) = I (14 + 6 * s) := gk_set hkp hs
  have e16 : r (14 + 6 * s + 2) = I (16 + 6 * s) := by rw [show 14 + 6 * s + 2 = 16 + 6 * s by omega]; exact hkp.1 _ (by unfold gco; omega)
  have e19 : r (14 + 6 * s + 5) = I (19 + 6 * s) := by rw [show 14 + 6 * s + 5 = 19 + 6 * s by omega]; exact hkp.1 _ (by unfold gco; omega)
  intro d
  induction d with
  | zero =>
    intro f k hk hf
    obtain ⟨f, rfl⟩ : ∃ q, f = q + 1 := ⟨f - 1, by omega⟩
    unfold p_X9_firstHolding_2 frs
    rw [e14, eC, if_pos (nI_le (by omega) (by omega)), if_pos (by omega)]
  | succ d ih =>
    intro f k hk hf'
    obtain ⟨f, rfl⟩ : ∃ q, f = q + 1 := ⟨f - 1, by omega⟩
    obtain ⟨-, n, n1, n2, n3, n4, n5, n6, n7⟩ := hcl k (by omega)
    have cf : p_X9_codeFrom r (14 + 6 * s) (nI k) = some (nI (gEnd (I (16 + 6 * s)) k)) := by
      unfold p_X9_codeFrom
      by_cases k0 : k = 0
      · subst k0
        rw [if_pos (show nI 0 ≤ 0 by decide)]
        rfl
      · obtain ⟨-, m, -, -, z3, z4, -⟩ := hcl (k - 1) (by omega)
        rw [if_neg (nI_nle (by omega) (by omega)), if_neg (show ¬ (8 : Int32) < nI k from nI_nlt (a := 8) (by omega) (by omega)), show nI k - 1 = nI (k - 1) from pk_sub (b := 1) (by omega), gck_t (gin_nI (by omega) (by omega)), nI_clamp (by omega), e16, gEnd_nI (f := I (16 + 6 * s)) (k := k) (n := gEnd (I (16 + 6 * s)) (k - 1) + m) (by omega) (fun _ => z3) (by omega)]
    unfold p_X9_firstHolding_2
    rw [e14, eC, if_neg (nI_ge (by omega) (by omega)), if_neg (show ¬ (8 : Int32) ≤ nI k from nI_ge (b := 8) (by omega) (by omega)), cf, gB_v, gck_t (gin_nI (by omega) (by omega)), nI_clamp (by omega), e16, n3]
    have eh : hold I P A s k = if n = 0 then true else hd (ev (tru I P A) (I (19 + 6 * s)) (gEnd (I (16 + 6 * s)) k) n) := by
      unfold hold
      rw [n5, show gEnd (I (16 + 6 * s)) k + n - gEnd (I (16 + 6 * s)) k = n by omega]
    have nx := ih f (k + 1) (by omega) (by omega)
    by_cases h0 : n = 0
    · rw [if_pos (show nI (gEnd (I (16 + 6 * s)) k) = nI (gEnd (I (16 + 6 * s)) k + n) by rw [h0]; rfl)]
      rw [if_pos h0] at eh
      show (p_X9_firstHolding_42 _ _ _ _ _ _ (999999 + 1) _ _) = _
      unfold p_X9_firstHolding_42
      rw [gck_t (gin_nI (by omega) (by omega)), nI_clamp (by omega), e16, n3, h0, Nat.add_zero, if_pos (nI_le (Nat.le_refl _) (by omega)), if_pos (show (1 : Int32) &&& 1 = 1 by decide)]
      unfold frs
      rw [eh, if_pos rfl, if_neg (by omega)]
    · rw [if_neg (show ¬ nI (gEnd (I (16 + 6 * s)) k) = nI (gEnd (I (16 + 6 * s)) k + n) from fun q => by rw [nI_eq (by omega) (by omega)] at q; omega)]
      rw [if_neg h0] at eh
      have hg := n6.resolve_left h0
      have := x9_fh_42 (r := r) hA hf (s := s) (k := k) (e := gEnd (I (16 + 6 * s)) k) (n := n) (by omega) (by rw [e16]; exact n3) e19 n4 (fun i hi => (n7 i hi).1) hg (fun x2 => p_X9_firstHolding_2 r (14 + 6 * s) (nI fc) f x2) (nI (gEnd (I (16 + 6 * s)) k)) n gFu 0 (by omega) (by unfold gFu; omega)
      rw [show p_X9_firstHolding_42 (fun x2 => p_X9_firstHolding_2 r (14 + 6 * s) (nI fc) f x2) r (14 + 6 * s) (nI fc) (nI k) (nI (gEnd (I (16 + 6 * s)) k)) gFu 0 (nI (gEnd (I (16 + 6 * s)) k)) = _ from this, ← eh]
      unfold frs
      by_cases c : hold I P A s k = true
      · rw [if_pos c, if_pos c, if_neg (by omega)]
      · rw [if_neg c, if_neg c]
        exact nx
def cst (r : gIt) (st : (Nat → Nat) × Nat) : Prop := r 76 1 = nI st.2 ∧ ∀ o, o < 16 → r 77 o = nI (st.1 o)
def fr67 (r0 r : gIt) : Prop := ∀ x, x ≠ 76 → x ≠ 77 → r x = r0 x
theorem nI_min {a b : Nat} (ha : a < 2 ^ 31) (hb : b < 2 ^ 31) : gmin (nI a) (nI b) = nI (min a b) := by
  unfold gmin
  by_cases h : b < a
  · rw [if_pos (nI_lt h ha), Nat.min_eq_right (by omega)]
  · rw [if_neg (nI_nlt (by omega) hb), Nat.min_eq_left (by omega)]
theorem x3_give {r0 r : gIt} {st : (Nat → Nat) × Nat} {F each : Nat} (hF : F < 2 ^ 30) (hb : gbd F st) (hc : cst r st) (hfr : fr67 r0 r) (he : each < 2 ^ 31) {o : Nat} (ho : o < 16) : ∃ r', p_X3_give r (nI o) (nI each) = some r' ∧ cst r' (gv1 each st o) ∧ fr67 r0 r' := by
  have hbo := hb o
  refine ⟨gu2 (gu2 r 77 o (nI (st.1 o + min each st.2))) 76 1 (nI (st.2 - min each st.2)), ?_, ⟨?_, fun x hx => ?_⟩, fun x h1 h2 => ?_⟩
  · unfold p_X3_give gL
    rw [hc.1, nI_min he (by omega)]
    dsimp only
    rw [gck_t (gin_nI ho (by omega)), nI_clamp (by omega), hc.2 o ho, gck_t (gin_nI ho (by omega)), nI_add, gu_rd (by decide), hc.1, pk_sub (by omega)]
  · rw [gu_sl, if_pos rfl]; rfl
  · rw [gu_rd (by decide), gu_sl]
    unfold gv1
    dsimp only
    by_cases e : x = o
    · rw [if_pos e, if_pos e]
    · rw [if_neg e, if_neg e]; exact hc.2 x hx
  · rw [gu2_ne h1, gu2_ne h2]; exact hfr x h1 h2
theorem x3_gs_loop {r0 : gIt} {F each S : Nat} (hF : F < 2 ^ 30) (he : each < 2 ^ 31) (hS : S < 65536) (a1 : Nat) (x2 x4 x5 x6 x8 : Int32) (st : (Nat → Nat) × Nat) (hb : gbd F st) : ∀ (d f k : Nat) (r : gIt), k + d = 16 → d < f → cst r (gv S each k st) → fr67 r0 r → ∃ r', p_X3_giveShare_103 a1 x2 x4 x5 x6 (nI S) x8 (nI each) f r (nI k) = some r' ∧ cst r' (gv S each 16 st) ∧ fr67 r0 r' := by
  intro d
  induction d with
  | zero =>
    intro f k r hk hf hc hfr
    obtain ⟨f, rfl⟩ : ∃ q, f = q + 1 := ⟨f - 1, by omega⟩
    have : k = 16 := by omega
    subst this
    refine ⟨r, ?_, hc, hfr⟩
    unfold p_X3_giveShare_103
    rw [if_pos (show (16 : Int32) ≤ nI 16 by decide)]
  | succ d ih =>
    intro f k r hk hf hc hfr
    obtain ⟨f, rfl⟩ : ∃ q, f = q + 1 := ⟨f - 1, by omega⟩
    unfold p_X3_giveShare_103
    rw [if_neg (show ¬ (16 : Int32) ≤ nI k from nI_ge (b := 16) (by omega) (by omega)), ush1 (by omega) (by omega), nI_1]
    by_cases c : S.testBit k = true
    · obtain ⟨r', e', c', f'⟩ := x3_give hF (gbd_v hb k) hc hfr he (o := k) (by omega)
      rw [if_pos (by rw [c]; rfl), e', gB_v]
      refine ih f (k + 1) r' (by omega) (by omega) ?_ f'
      unfold gv
      rw [if_pos c]
      exact c'
    · rw [if_neg (by rw [if_neg c]; decide)]
      refine ih f (k + 1) r (by omega) (by omega) ?_ hfr
      unfold gv
      rw [if_neg c]
      exact hc
theorem fr67_keep {r0 r : gIt} (h : fr67 r0 r) : gkeep r0 r := by
  refine ⟨fun x hx => h x (by rintro rfl; unfold gco at hx; omega) (by rintro rfl; unfold gco at hx; omega), ⟨?_, ?_, ?_, ?_, ?_, ?_, ?_, ?_, ?_, ?_⟩, ⟨?_, ?_, ?_, ?_, ?_, ?_⟩, ?_, ?_, ?_, ?_, ?_, ?_, ?_, ?_, ?_, ?_, ?_⟩ <;> rw [h _ (by decide) (by decide)]
theorem fr67_knw {I r0 r : gIt} {P : Nat} {t : Int32} (h : fr67 r0 r) (hk : knw I P t r0) : knw I P t r := by
  obtain ⟨k1, k2, k3, k4⟩ := hk
  refine ⟨gkeep_tr k1 (fr67_keep h), ?_, ?_, fun q hq => ?_⟩
  · rw [h 74 (by decide) (by decide)]; exact k2
  · rw [h 74 (by decide) (by decide)]; exact k3
  · rw [h 75 (by decide) (by decide)]; exact k4 q hq
theorem x3_giveShare {I r0 r : gIt} {P : Nat} {t : Int32} {A s y F : Nat} (hk0 : knw I P t r0) (hA : alv I P t A) (hp : ∀ o, o < P → iPer1 I o) (hy : (I 0 14).toInt ≤ 1999) (hs : s < 10) (hy32 : y < 32) {w dv : Nat} (hw : w < 32) (ew : I (17 + 6 * s) y = nI w) (hd1 : 1 ≤ dv) (hd9 : dv ≤ 9) (ed : I (18 + 6 * s) y = nI dv) (hF : F ≤ 100000) (eF : I (14 + 6 * s) 5 = nI F) {st : (Nat → Nat) × Nat} (hb : gbd F st) (hc : cst r st) (hfr : fr67 r0 r) : ∃ r', p_X3_giveShare r (14 + 6 * s) (nI y) (nI A) = some r' ∧ cst r' (gv (tkS I P A s y) (tkE I P A s y) 16 st) ∧ fr67 r0 r' := by
  have hk : knw I P t r := fr67_knw hfr hk0
  have e14 : r (14 + 6 * s) = I (14 + 6 * s) := gk_set hk.1 hs
  have e17 : r (14 + 6 * s + 3) = I (17 + 6 * s) := by rw [show 14 + 6 * s + 3 = 17 + 6 * s by omega]; exact hk.1.1 _ (by unfold gco; omega)
  have e18 : r (14 + 6 * s + 4) = I (18 + 6 * s) := by rw [show 14 + 6 * s + 4 = 18 + 6 * s by omega]; exact hk.1.1 _ (by unfold gco; omega)
  have hS16 : tkS I P A s y < 65536 := by
    unfold tkS
    by_cases c : (I (17 + 6 * s) y).toNatClampNeg < 16
    · rw [if_pos c]; exact lt_and hA.1
    · rw [if_neg c]; exact Nat.lt_of_le_of_lt Nat.and_le_right hA.1
  have eS : (gB (α := Int32) (if nI w < (16 : Int32) then some (0 : Int32) else some (1 : Int32)) fun ph7 => gB (α := Int32) (if ph7 = 0 then some (gshl (1 : Int32) (nI w)) else gB (p_X5_childrenOf r (nI w - (16 : Int32))) fun r28 => some r28) fun ph11 => some (ph7, nI A &&& ph11)) = some ((if w < 16 then (0 : Int32) else 1), nI (tkS I P A s y)) := by
    unfold tkS
    rw [ew, nI_clamp (by omega)]
    by_cases c : w < 16
    · rw [if_pos (show nI w < (16 : Int32) from nI_lt (b := 16) c (by omega)), gB_v, if_pos rfl, gB_v, if_pos c, if_pos c, shl1 (by omega), nI_and]
    · rw [if_neg (show ¬ nI w < (16 : Int32) from nI_nlt (b := 16) (by omega) (by omega)), gB_v, if_neg (by decide), show nI w - (16 : Int32) = nI (w - 16) from pk_sub (b := 16) (by omega)]
      unfold p_X5_childrenOf
      rw [if_neg (nI_pos (by omega)), if_neg (show ¬ (16 : Int32) ≤ nI (w - 16) from nI_ge (b := 16) (by omega) (by omega)), gck_t (gin_nI (by omega) (by omega)), nI_clamp (by omega), gB_v, gB_v, if_neg c, if_neg c, hk.2.2.2 _ (by omega), nI_and, Nat.and_comm, cs_eq hA hp hy]
  unfold p_X3_giveShare
  rw [if_neg (nI_pos (by omega)), if_neg (nI_ge (by omega) (by omega)), gck_t (gin_nI (by omega) (by omega)), nI_clamp (by omega), e18, ed, if_pos (show (0 : Int32) < nI dv from nI_lt (a := 0) (by omega) (by omega)), gck_t (gin_nI (by omega) (by omega)), gL_b, e17, ew]
  -- the head of the rest is the pair above
  have rest : ∀ (X : Option gIt) (f : Int32 → Int32 → Option gIt), (gB (α := Int32) (if nI w < (16 : Int32) then some (0 : Int32) else some (1 : Int32)) fun ph7 => gB (α := Int32) (if ph7 = 0 then some (gshl (1 : Int32) (nI w)) else gB (p_X5_childrenOf r (nI w - (16 : Int32))) fun r28 => some r28) fun ph11 => f ph7 (nI A &&& ph11)) = f (if w < 16 then (0 : Int32) else 1) (nI (tkS I P A s y)) := by
    intro X f
    by_cases c : nI w < (16 : Int32)
    · rw [if_pos c, gB_v, if_pos rfl, gB_v] at eS ⊢
      rw [Option.some_inj, Prod.mk.injEq] at eS
      rw [eS.2, ← eS.1]
    · rw [if_neg c, gB_v, if_neg (by decide)] at eS ⊢
      cases h : p_X5_childrenOf r (nI w - (16 : Int32)) with
      | none => rw [h] at eS; exact absurd eS (by simp [gB])
      | some v =>
        rw [h, gB_v, gB_v, Option.some_inj, Prod.mk.injEq] at eS
        rw [gB_v, gB_v, eS.2, ← eS.1]
  rw [rest none (fun ph7 z15 => gL z15 fun z15 => gB (p_J6_bitCount_0f7a4 z15) fun r16 => if r16 = 0 then some r else gck (gin (nI y) 32) (gck (decide (¬ nI dv = 0)) (gck (decide (¬ r16 = 0)) (gL (r (14 + 6 * s) 5 / nI dv / r16) fun z22 => p_X3_giveShare_103 (14 + 6 * s) (nI y) (nI A) (nI w) ph7 z15 r16 z22 gFu r 0))))]
  rw [gL_b, bitCount hS16, gB_v]
  have gl := gpc_le 16 (tkS I P A s y)
  by_cases c0 : gpc 16 (tkS I P A s y) = 0
  · rw [if_pos (show nI (gpc 16 (tkS I P A s y)) = 0 by rw [c0]; rfl), gpc_eq0 hS16 c0, gv_none]
    exact ⟨r, rfl, hc, hfr⟩
  · have d1 : decide (¬ nI dv = 0) = true := by rw [decide_eq_true_eq]; exact nI_ne0 (by omega) (by omega)
    have d2 : decide (¬ nI (gpc 16 (tkS I P A s y)) = 0) = true := by rw [decide_eq_true_eq]; exact nI_ne0 (by omega) (by omega)
    have hF1 : F / dv ≤ F := Nat.div_le_self _ _
    have hF2 : F / dv / gpc 16 (tkS I P A s y) ≤ F / dv := Nat.div_le_self _ _
    rw [if_neg (nI_ne0 (by omega) (by omega)), gck_t (gin_nI (by omega) (by omega)), gck_t d1, gck_t d2, gL_b, e14, eF, pk_div (by omega) (by omega) (by omega), pk_div (by omega) (by omega) (by omega)]
    have eE : tkE I P A s y = F / dv / gpc 16 (tkS I P A s y) := by unfold tkE; rw [eF, ed, nI_clamp (by omega), nI_clamp (by omega)]
    rw [eE]
    exact x3_gs_loop (by omega) (by omega) hS16 _ _ _ _ _ _ st hb 16 gFu 0 r (by omega) (by unfold gFu; omega) hc hfr
theorem x3_div_64 {I r0 : gIt} {P : Nat} {t : Int32} {A s k F a n : Nat} (hk0 : knw I P t r0) (hA : alv I P t A) (hp : ∀ o, o < P → iPer1 I o) (hy : (I 0 14).toInt ≤ 1999) (hs : s < 10) (hk8 : k < 8) (e15 : I (15 + 6 * s) k = nI (a + n)) (han : a + n ≤ 32) (hx : ∀ x, x < n → ∃ w d, w < 32 ∧ 1 ≤ d ∧ d ≤ 9 ∧ I (17 + 6 * s) (a + x) = nI w ∧ I (18 + 6 * s) (a + x) = nI d) (hF : F ≤ 100000) (eF : I (14 + 6 * s) 5 = nI F) (st : (Nat → Nat) × Nat) (hb : gbd F st) : ∀ (d f x : Nat) (r : gIt), x + d = n → d < f → cst r (gsh I P A s a x st) → fr67 r0 r → ∃ r', p_X3_divide_64 (14 + 6 * s) (nI A) (nI k) f r (nI (a + x)) = some r' ∧ cst r' (gsh I P A s a n st) ∧ fr67 r0 r' := by
  intro d
  induction d with
  | zero =>
    intro f x r hxd hf hc hfr
    obtain ⟨f, rfl⟩ : ∃ q, f = q + 1 := ⟨f - 1, by omega⟩
    have : x = n := by omega
    subst this
    refine ⟨r, ?_, hc, hfr⟩
    have e1 : r (14 + 6 * s + 1) = I (15 + 6 * s) := by rw [show 14 + 6 * s + 1 = 15 + 6 * s by omega]; exact (fr67_knw hfr hk0).1.1 _ (by unfold gco; omega)
    unfold p_X3_divide_64
    rw [gck_t (gin_nI (by omega) (by omega)), nI_clamp (by omega), e1, e15, if_pos (nI_le (by omega) (by omega))]
  | succ d ih =>
    intro f x r hxd hf hc hfr
    obtain ⟨f, rfl⟩ : ∃ q, f = q + 1 := ⟨f - 1, by omega⟩
    have e1 : r (14 + 6 * s + 1) = I (15 + 6 * s) := by rw [show 14 + 6 * s + 1 = 15 + 6 * s by omega]; exact (fr67_knw hfr hk0).1.1 _ (by unfold gco; omega)
    obtain ⟨w, dv, w1, w2, w3, w4, w5⟩ := hx x (by omega)
    obtain ⟨r', e', c', f'⟩ := x3_giveShare hk0 hA hp hy hs (y := a + x) (by omega) w1 w4 w2 w3 w5 hF eF (gbd_s hb x) hc hfr
    unfold p_X3_divide_64
    rw [gck_t (gin_nI (by omega) (by omega)), nI_clamp (by omega), e1, e15, if_neg (nI_ge (by omega) (by omega)), e', gB_v, nI_1]
    exact ih f (x + 1) r' (by omega) (by omega) c' f'
theorem x3_divide {I r0 : gIt} {P : Nat} {t : Int32} {A s : Nat} (hk0 : knw I P t r0) (hA : alv I P t A) (hp : ∀ o, o < P → iPer1 I o) (hy : (I 0 14).toInt ≤ 1999) (hs : s < 10) (hset : iSet1 I P s) : ∃ r, p_X3_divide r0 (14 + 6 * s) (nI A) = some r ∧ cst r (fallOf I P A s) ∧ fr67 r0 r := by
  obtain ⟨C, hC1, hC, eC, -, hcl⟩ := set_cl hset
  obtain ⟨⟨-, f1, f2⟩, -⟩ := id hset
  obtain ⟨F, -, eF, tF⟩ := i_of (x := I (14 + 6 * s) 5) (by omega)
  have lp : ∀ (d f k : Nat) (r : gIt), k + d = 16 → d < f → fr67 r0 r → (∀ o, o < k → r 77 o = 0) → ∃ r', p_X3_divide_3 (14 + 6 * s) (nI A) f r (nI k) = some r' ∧ cst r' (fallOf I P A s) ∧ fr67 r0 r' := by
    intro d
    induction d with
    | zero =>
      intro f k r hk hf hfr h0
      obtain ⟨f, rfl⟩ : ∃ q, f = q + 1 := ⟨f - 1, by omega⟩
      have : k = 16 := by omega
      subst this
      unfold p_X3_divide_3
      have hfr2 : fr67 r0 (gu2 r 76 1 (nI F)) := fun x h1 h2 => by rw [gu2_ne h1]; exact hfr x h1 h2
      have hk2 := fr67_knw hfr2 hk0
      obtain ⟨fc, hfc, efc⟩ := x5_factsOf hk2 hA hp hy
      have h76 : cst (gu2 r 76 1 (nI F)) (fun _ => 0, F) := ⟨by rw [gu_sl, if_pos rfl], fun o ho => by rw [gu_rd (by decide)]; exact h0 o ho⟩
      rw [if_pos (show (16 : Int32) ≤ nI 16 by decide), gL_b, gk_set (fr67_knw hfr hk0).1 hs, eF, gL_b, efc, gB_v]
      rw [p_X9_firstHolding, show p_X9_firstHolding_2 (gu2 r 76 1 (nI F)) (14 + 6 * s) (nI fc) gFu 0 = _ from x9_fh_2 hA.1 hfc hs hset hk2.1 hC eC C gFu 0 (by omega) (by unfold gFu; omega), gB_v]
      have fl := frs_le (hold I P A s) C 0
      have efall : fallOf I P A s = if frs (hold I P A s) C 0 = C then (fun _ => 0, F) else gsh I P A s (gEnd (I (15 + 6 * s)) (frs (hold I P A s) C 0)) (gEnd (I (15 + 6 * s)) (frs (hold I P A s) C 0 + 1) - gEnd (I (15 + 6 * s)) (frs (hold I P A s) C 0)) (fun _ => 0, F) := by
        unfold fallOf
        dsimp only
        rw [eC, eF, nI_clamp (by omega), nI_clamp (by omega)]
      rw [efall]
      generalize frs (hold I P A s) C 0 = k at fl ⊢
      by_cases c : k = C
      · rw [if_pos c, if_pos c, if_pos (show (-1 : Int32) < 0 by decide)]
        exact ⟨_, rfl, h76, hfr2⟩
      · rw [if_neg c, if_neg c, if_neg (nI_pos (by omega)), if_pos (show nI k < (8 : Int32) from nI_lt (b := 8) (by omega) (by omega))]
        obtain ⟨⟨n, n1, n2, n3, n4, n5, n6⟩, -⟩ := hcl k (by omega)
        have e1 : gu2 r 76 1 (nI F) (14 + 6 * s + 1) = I (15 + 6 * s) := by rw [show 14 + 6 * s + 1 = 15 + 6 * s by omega]; exact hk2.1.1 _ (by unfold gco; omega)
        have sf : p_X9_shareFrom (gu2 r 76 1 (nI F)) (14 + 6 * s) (nI k) = some (nI (gEnd (I (15 + 6 * s)) k)) := by
          unfold p_X9_shareFrom
          by_cases k0 : k = 0
          · subst k0
            rw [if_pos (show nI 0 ≤ 0 by decide)]
            rfl
          · obtain ⟨⟨m, z1, z2, z3, z4, -⟩, -⟩ := hcl (k - 1) (by omega)
            rw [if_neg (nI_nle (by omega) (by omega)), if_neg (show ¬ (8 : Int32) < nI k from nI_nlt (a := 8) (by omega) (by omega)), show nI k - 1 = nI (k - 1) from pk_sub (b := 1) (by omega), gck_t (gin_nI (by omega) (by omega)), nI_clamp (by omega), e1, gEnd_nI (f := I (15 + 6 * s)) (k := k) (n := gEnd (I (15 + 6 * s)) (k - 1) + m) (by omega) (fun _ => z3) (by omega)]
        rw [sf, gB_v, n5, show gEnd (I (15 + 6 * s)) k + n - gEnd (I (15 + 6 * s)) k = n by omega]
        obtain ⟨r', e', c', f'⟩ := x3_div_64 hk2 hA hp hy hs (k := k) (by omega) n3 n4 (fun x hx => by
          obtain ⟨w, d, w1, w2, w3, w4, w5, -⟩ := n6 x hx
          exact ⟨w, d, w1, w2, w3, w4, w5⟩) (by omega) eF (fun _ => 0, F) (fun o => by dsimp only; omega) n gFu 0 (gu2 r 76 1 (nI F)) (by omega) (by unfold gFu; omega) h76 (fun x _ _ => rfl)
        exact ⟨r', e', c', fun x h1 h2 => (f' x h1 h2).trans (hfr2 x h1 h2)⟩
    | succ d ih =>
      intro f k r hk hf hfr h0
      obtain ⟨f, rfl⟩ : ∃ q, f = q + 1 := ⟨f - 1, by omega⟩
      unfold p_X3_divide_3
      rw [if_neg (show ¬ (16 : Int32) ≤ nI k from nI_ge (b := 16) (by omega) (by omega)), gck_t (gin_nI (by omega) (by omega)), nI_clamp (by omega), gL_b, nI_1]
      refine ih f (k + 1) _ (by omega) (by omega) (fun x h1 h2 => by rw [gu2_ne h2]; exact hfr x h1 h2) (fun o ho => ?_)
      rw [gu_sl]
      by_cases e : o = k
      · rw [if_pos e]
      · rw [if_neg e]; exact h0 o (by omega)
  unfold p_X3_divide
  exact lp 16 gFu 0 r0 (by omega) (by unfold gFu; omega) (fun x _ _ => rfl) (fun o ho => by omega)
theorem x3_givenTo {r : gIt} {st : (Nat → Nat) × Nat} (h : cst r st) {o : Nat} (ho : o < 16) : p_X3_givenTo r (nI o) = some (nI (st.1 o)) := by
  unfold p_X3_givenTo
  rw [if_neg (nI_pos (by omega)), if_neg (show ¬ (16 : Int32) ≤ nI o from nI_ge (b := 16) (by omega) (by omega)), gck_t (gin_nI ho (by omega)), nI_clamp (by omega), h.2 o ho]
