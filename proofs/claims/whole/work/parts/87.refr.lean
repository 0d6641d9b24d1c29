/-! ===== the reference reckons; chance, worth ===== -/
section Mk
variable {I : gIt} {P : Nat} {t y : Int32} {s tb T : Nat}
def frM (M0 M : gIt) : Prop := (∀ x, x ≠ 172 → x ≠ 149 → M x = M0 x) ∧ ∀ j, j ≠ 40 → M 149 j = M0 149 j
theorem frM_keep {M0 M : gIt} (h : frM M0 M) : gkeep M0 M := by
  obtain ⟨h1, h2⟩ := h
  refine ⟨fun x hx => h1 x (by rintro rfl; unfold gco at hx; omega) (by rintro rfl; unfold gco at hx; omega), ⟨?_, ?_, ?_, ?_, ?_, ?_, ?_, ?_, ?_, ?_⟩, ⟨?_, ?_, ?_, ?_, ?_, ?_⟩, h2 _ (by decide), h2 _ (by decide), h2 _ (by decide), h2 _ (by decide), h2 _ (by decide), h2 _ (by decide), h2 _ (by decide), h2 _ (by decide), h2 _ (by decide), h2 _ (by decide), h2 _ (by decide)⟩ <;> rw [h1 _ (by decide) (by decide)]
def lM (I : gIt) (tb : Nat) (y : Int32) (T : Nat) (l : List Nat) (M : gIt) (J : gJt) : Prop := M 149 40 = nI l.length ∧ (∀ i, i < l.length → M 172 i = nI (pf l i)) ∧ J 149 42 = lN (whN I tb y T l)
/-- the reference's cells of a reckoning, out of the class's -/
theorem m_age (h : rkH I P t y s tb T) {M : gIt} (k : gkeep I M) {o : Nat} (ho : thr I P t o = true) : y - M 151 o = nI (agN I y o) := by
  have hth := ho
  unfold thr at hth
  rw [decide_eq_true_eq] at hth
  rw [k.1 151 (by unfold gco; omega), (h.1.2.2.2.1 o hth.1).1.1]
  exact (ag_of h ho).1
theorem m_lv (h : rkH I P t y s tb T) {M : gIt} (k : gkeep I M) {A : Nat} (hA : A < 2 ^ 30) : p_X12_livesAt M (nI tb) (nI A) = some (lvs (I 10) tb A) := by
  rw [x12_livesAt h.2.2.2.2.2.2.2.2.1 hA, k.1 156 (by unfold gco; omega), lvs_eq h.2.1 h.2.2.2.2.2.2.2.2.1]
theorem m_159 (h : rkH I P t y s tb T) {M : gIt} (k : gkeep I M) : M 159 s = nI tb := by
  obtain ⟨-, -, -, -, hset, -, -, etb, -⟩ := h
  rw [k.1 159 (by unfold gco; omega), hset.2.2.1.1, etb]
theorem m_158 (h : rkH I P t y s tb T) {M : gIt} (k : gkeep I M) : M 158 s = nI T := by
  obtain ⟨-, -, -, -, hset, eT, -⟩ := h
  rw [k.1 158 (by unfold gco; omega), hset.2.1.1, eT]
theorem x12_list {M0 : gIt} (h : rkH I P t y s tb T) (kM : gkeep I M0) (x4 : Int32) : ∀ (d f k : Nat) (M : gIt) (J : gJt), k + d = P → d < f → frM M0 M → lM I tb y T (lvL I P t s k) M J → (lvL I P t s k).length ≤ 4 → ∃ v M' J', p_X12_isReckoned_70 (nI s) t y x4 (nI (nmS I P t s)) f M J (nI k) = some (v, M', J') ∧ frM M0 M' ∧ ((v = 1 ∧ lM I tb y T (lvL I P t s P) M' J' ∧ gdk I P t y s tb T P) ∨ (v = 0 ∧ ¬ gdk I P t y s tb T P)) := by
  intro d
  have hP := h.1.1
  have hs10 := h.2.2.2.1
  induction d with
  | zero =>
    intro f k M J hk hf hfr hl hg
    obtain ⟨f, rfl⟩ : ∃ q, f = q + 1 := ⟨f - 1, by omega⟩
    have : k = P := by omega
    subst this
    have hwl := whN_lt h hg
    unfold p_X12_isReckoned_70
    rw [hfr.2 3 (by decide), kM.2.2.2.2.2.1, h.1.2.2.1, if_pos (nI_le (by omega) (by omega)), hl.2.2]
    have lg := lgc_gt (a := lN (whN I tb y T (lvL I k t s k))) (b := 0)
    rw [pk_lT (by omega)] at lg
    have l0 : (0 : Int64).toInt = 0 := rfl
    rw [l0, Int32.lt_iff_toInt_lt] at lg
    have i0 : (0 : Int32).toInt = 0 := rfl
    rw [i0] at lg
    by_cases c : 0 < whN I tb y T (lvL I k t s k)
    · rw [if_neg (by rw [Int32.le_iff_toInt_le, i0]; have := lg.mpr (by omega); omega)]
      exact ⟨1, M, J, rfl, hfr, Or.inl ⟨rfl, hl, hg, c⟩⟩
    · rw [if_pos (by
        rw [Int32.le_iff_toInt_le, i0]
        rcases Int.lt_or_le 0 (lg_cmp (lN (whN I tb y T (lvL I k t s k))) 0).toInt with q | q
        · have := lg.mp q; omega
        · exact q)]
      exact ⟨0, M, J, rfl, hfr, Or.inr ⟨rfl, fun z => c z.2⟩⟩
  | succ d ih =>
    intro f k M J hk hf hfr hl hg
    obtain ⟨f, rfl⟩ : ∃ q, f = q + 1 := ⟨f - 1, by omega⟩
    have k2 : gkeep I M := gkeep_tr kM (frM_keep hfr)
    have cx2 := ctx_k k2 h.1
    have ed : (if ¬ M 5 k = -1 ∧ (M 6 k).toInt ≤ t.toInt then (1 : Int32) else 0) = if ded I t k then 1 else 0 := by
      unfold ded
      rw [k2.1 5 (by unfold gco; omega), k2.1 6 (by unfold gco; omega)]
      by_cases q : ¬ I 5 k = -1 ∧ (I 6 k).toInt ≤ t.toInt
      · rw [if_pos q, decide_eq_true q]; rfl
      · rw [if_neg q, decide_eq_false q]; rfl
    unfold p_X12_isReckoned_70
    rw [hfr.2 3 (by decide), kM.2.2.2.2.2.1, h.1.2.2.1, if_neg (nI_ge (by omega) (by omega)), x12_has (by have := nmS_lt I P t s; omega) (by omega), gB_v, x12_kd M (by omega) (iPer_kd (cx2.2.2.2.1 k (by omega))) t, gB_v, ed, nI_1]
    by_cases c : lcd I P t s k = true
    · have eL : lvL I P t s (k + 1) = lvL I P t s k ++ [k] := by
        show (if lcd I P t s k then _ else _) = _
        rw [if_pos c]
      have c' := c
      unfold lcd at c'
      rw [Bool.and_eq_true, Bool.not_eq_true'] at c'
      obtain ⟨l1, l2, l3⟩ := id hl
      rw [if_neg (by rw [c'.1]; decide), if_pos (by rw [c'.2]; rfl), l1]
      by_cases c4 : (lvL I P t s k).length = 4
      · rw [if_pos (by rw [c4]; rfl)]
        refine ⟨0, M, J, rfl, hfr, Or.inr ⟨rfl, fun z => ?_⟩⟩
        have := (gdk_m (k := k + 1) d (by rw [show k + 1 + d = P by omega]; exact z)).1
        rw [eL, List.length_append] at this
        have : [k].length = 1 := rfl
        omega
      · have g4 : gin (nI (lvL I P t s k).length) 4 = true := gin_nI (by omega) (by omega)
        have hth := lcd_thr (by omega) c
        obtain ⟨s1, s2⟩ := hs_of h k
        rw [if_neg (show ¬ nI (lvL I P t s k).length = (4 : Int32) from fun q => c4 ((nI_eq (b := 4) (by omega) (by omega)).mp q)), gck_t g4, gL_b, nI_clamp (by omega), gu_rd (by decide), l1, nI_1, gL_b, gL_b]
        generalize hM30 : gu2 (gu2 M 172 (lvL I P t s k).length (nI k)) 149 40 (nI ((lvL I P t s k).length + 1)) = M30
        have f30 : frM M0 M30 := by
          rw [← hM30]
          exact ⟨fun x h1 h2 => by rw [gu2_ne h2, gu2_ne h1]; exact hfr.1 x h1 h2, fun j hj => by rw [gu_sl, if_neg hj, gu_rd (by decide)]; exact hfr.2 j hj⟩
        have k30 : gkeep I M30 := gkeep_tr kM (frM_keep f30)
        rw [gck_t (gin_nI (by omega) (by omega)), gck_t (gin_nI (by omega) (by omega)), nI_clamp (by omega), nI_clamp (by omega), m_159 h k30, m_age h k30 hth, m_lv h k30 (by have := (ag_of h hth).2; omega), gB_v, gL_b, gL_b, l3, s1, nI_l (by omega), lN_mul]
        refine ih f (k + 1) M30 _ (by omega) (by omega) f30 ⟨?_, fun i hi => ?_, ?_⟩ ?_
        · rw [← hM30, gu_sl, if_pos rfl, eL, List.length_append]; rfl
        · rw [eL, List.length_append] at hi
          have hi1 : i < (lvL I P t s k).length + 1 := hi
          rw [← hM30, gu_rd (by decide), gu_sl, eL]
          by_cases e : i = (lvL I P t s k).length
          · rw [e, if_pos rfl, pf_r]
          · rw [if_neg e, pf_l (by omega)]; exact l2 i (by omega)
        · rw [gu_sl, if_pos rfl, eL, whN_app]
        · rw [eL, List.length_append]
          have : [k].length = 1 := rfl
          omega
    · have eL : lvL I P t s (k + 1) = lvL I P t s k := by
        show (if lcd I P t s k then _ else _) = _
        rw [if_neg c]
      have nx := ih f (k + 1) M J (by omega) (by omega) hfr (by rw [eL]; exact hl) (by rw [eL]; exact hg)
      unfold lcd at c
      by_cases c1 : (nmS I P t s).testBit k = true
      · have c2 : ded I t k = true := by
          cases e : ded I t k with
          | true => rfl
          | false => rw [c1, e] at c; exact absurd rfl c
        rw [if_neg (by rw [c1]; decide), if_neg (by rw [c2]; decide)]
        exact nx
      · rw [if_pos (by rw [if_neg c1])]
        exact nx
def cM (I : gIt) (P : Nat) (t y : Int32) (s tb T : Nat) (M : gIt) (J : gJt) : Prop := gkeep I M ∧ lM I tb y T (lvL I P t s P) M J ∧ gdk I P t y s tb T P
theorem x12_isReckoned (h : rkH I P t y s tb T) {M : gIt} (kM : gkeep I M) (J : gJt) : ∃ v M' J', p_X12_isReckoned M J (nI s) t y = some (v, M', J') ∧ gkeep I M' ∧ ((v = 1 ∧ rkG I P t y s tb T ∧ cM I P t y s tb T M' J') ∨ (v = 0 ∧ ¬ rkG I P t y s tb T)) := by
  obtain ⟨cx, htab, ⟨ht1, ht2⟩, hs10, hset, eT, hT, etb, htb, -⟩ := id h
  have hP := cx.1
  have cx2 := ctx_k kM cx
  have et : thr M P t T = thr I P t T := by unfold thr; rw [kM.1 4 (by unfold gco; omega)]
  have ed : (if ¬ M 5 T = -1 ∧ (M 6 T).toInt ≤ t.toInt then (1 : Int32) else 0) = if ded I t T then 1 else 0 := by
    unfold ded
    rw [kM.1 5 (by unfold gco; omega), kM.1 6 (by unfold gco; omega)]
    by_cases q : ¬ I 5 T = -1 ∧ (I 6 T).toInt ≤ t.toInt
    · rw [if_pos q, decide_eq_true q]; rfl
    · rw [if_neg q, decide_eq_false q]; rfl
  unfold p_X12_isReckoned
  rw [gck_t (gin_nI (by omega) (by omega)), nI_clamp (by omega), m_158 h kM, gL_b, x12_isThere cx2.1 cx2.2.2.1 cx2.2.2.2.1 t (by omega), gB_v, et, x12_kd M (by omega) (iPer_kd (cx2.2.2.2.1 T hT)) t, gB_v, ed]
  by_cases c1 : thr I P t T = true
  · rw [if_neg (by rw [c1]; decide)]
    by_cases c2 : ded I t T = true
    · rw [if_neg (by rw [c2]; decide)]
      exact ⟨0, M, J, rfl, kM, Or.inr ⟨rfl, fun z => by rw [z.2.1] at c2; exact absurd c2 (by decide)⟩⟩
    · have c2' : ded I t T = false := by cases e : ded I t T with
        | false => rfl
        | true => exact absurd e c2
      obtain ⟨s1, s2⟩ := hs_of h T
      have hset2 : iSet1 M P s := by rw [iSet1_k kM P s hs10]; exact hset
      have f11 : frM M (gu2 M 149 40 0) := ⟨fun x _ h2 => gu2_ne h2, fun j hj => by rw [gu_sl, if_neg hj]⟩
      have k11 : gkeep I (gu2 M 149 40 0) := gkeep_tr kM (frM_keep f11)
      rw [if_pos (by rw [c2']; rfl), x12_namedSet cx2.1 cx2.2.2.1 cx2.2.2.2.1 _ hs10 hset2, nmS_k kM hs10, gB_v, gL_b, gck_t (gin_nI (by omega) (by omega)), gck_t (gin_nI (by omega) (by omega)), nI_clamp (show T < 2 ^ 31 by omega), m_159 h k11, m_age h k11 c1, m_lv h k11 (by have := (ag_of h c1).2; omega), gB_v, gL_b, gL_b, s1, nI_l (by omega)]
      obtain ⟨v, M', J', e1, f1, hv⟩ := x12_list h kM (nI T) P gFu 0 (gu2 M 149 40 0) (gu2 J 149 42 (lN (hsN I tb y T))) (by omega) (by unfold gFu; omega) f11 ⟨by rw [gu_sl, if_pos rfl]; rfl, fun i hi => absurd hi (Nat.not_lt_zero i), by rw [gu_sl, if_pos rfl]; rfl⟩ (Nat.zero_le _)
      refine ⟨v, M', J', e1, gkeep_tr kM (frM_keep f1), ?_⟩
      rcases hv with ⟨rfl, q1, q2⟩ | ⟨rfl, q2⟩
      · exact Or.inl ⟨rfl, ⟨c1, c2', q2⟩, gkeep_tr kM (frM_keep f1), q1, q2⟩
      · exact Or.inr ⟨rfl, fun z => q2 z.2.2⟩
  · rw [if_pos (by rw [if_neg c1])]
    exact ⟨0, M, J, rfl, kM, Or.inr ⟨rfl, fun z => c1 z.1⟩⟩
theorem x12_aliveOf {M : gIt} {J : gJt} (hP : P ≤ 16) (hc : cM I P t y s tb T M J) {x : Nat} (hx : x < 2 ^ 31) : p_X12_aliveOf M (nI x) = some (nI (aoB (pf (lvL I P t s P)) x (lvL I P t s P).length)) := by
  obtain ⟨-, ⟨l1, l2, -⟩, l4, -⟩ := hc
  have key : ∀ (d f k : Nat), k + d = (lvL I P t s P).length → d < f → p_X12_aliveOf_4 M (nI x) f (nI (aoB (pf (lvL I P t s P)) x k)) (nI k) = some (nI (aoB (pf (lvL I P t s P)) x (lvL I P t s P).length)) := by
    intro d
    induction d with
    | zero =>
      intro f k hk hf
      obtain ⟨f, rfl⟩ : ∃ q, f = q + 1 := ⟨f - 1, by omega⟩
      unfold p_X12_aliveOf_4
      rw [l1, if_pos (nI_le (by omega) (by omega)), show k = (lvL I P t s P).length by omega]
    | succ d ih =>
      intro f k hk hf
      obtain ⟨f, rfl⟩ : ∃ q, f = q + 1 := ⟨f - 1, by omega⟩
      have nx := ih f (k + 1) (by omega) (by omega)
      have hp := (lvL_mem (I := I) (P := P) (t := t) (s := s) P k (by omega)).1
      unfold p_X12_aliveOf_4
      rw [l1, if_neg (nI_ge (by omega) (by omega)), x12_has hx (by omega), gB_v, gck_t (gin_nI (by omega) (by omega)), nI_clamp (by omega), l2 k (by omega), shl1 (by omega), nI_or, or0, gL_b, gL_b, nI_1]
      rw [aoB_s] at nx
      by_cases c : x.testBit k = true
      · rw [if_pos c] at nx
        rw [if_neg (by rw [c]; decide)]
        exact nx
      · rw [if_neg c, Nat.or_zero] at nx
        rw [if_pos (by rw [if_neg c])]
        exact nx
  unfold p_X12_aliveOf
  exact key (lvL I P t s P).length gFu 0 (by omega) (by unfold gFu; omega)
theorem x12_weight (h : rkH I P t y s tb T) (hT : thr I P t T = true) {M : gIt} {J : gJt} (hc : cM I P t y s tb T M J) {x k : Nat} (hx : x < 2 ^ 31) (hk : k < 400) : p_X12_weightOf M (nI s) y (nI k) (nI x) = some (wtA I P t y s tb T x k) := by
  obtain ⟨kM, ⟨l1, l2, -⟩, l4, -⟩ := id hc
  have hP := h.1.1
  have hs10 := h.2.2.2.1
  have hTP := h.2.2.2.2.2.2.1
  have aT := (ag_of h hT).2
  have key : ∀ (d f i : Nat), i + d = (lvL I P t s P).length → d < f → ∀ x6 : Int32, p_X12_weightOf_50 M (nI s) y (nI k) (nI x) (nI tb) x6 f (wtB I tb y T (pf (lvL I P t s P)) x k i) (nI i) = some (wtA I P t y s tb T x k) := by
    intro d
    induction d with
    | zero =>
      intro f i hi hf x6
      obtain ⟨f, rfl⟩ : ∃ q, f = q + 1 := ⟨f - 1, by omega⟩
      unfold p_X12_weightOf_50
      rw [l1, if_pos (nI_le (by omega) (by omega)), show i = (lvL I P t s P).length by omega]
      rfl
    | succ d ih =>
      intro f i hi hf x6
      obtain ⟨f, rfl⟩ : ∃ q, f = q + 1 := ⟨f - 1, by omega⟩
      have nx := ih f (i + 1) (by omega) (by omega) x6
      have hm := lvL_mem (I := I) (P := P) (t := t) (s := s) P i (by omega)
      have hth := lcd_thr (by omega) hm.2
      have ha := (ag_of h hth).2
      unfold wtB at nx
      unfold p_X12_weightOf_50
      rw [l1, if_neg (nI_ge (by omega) (by omega)), gck_t (gin_nI (by omega) (by omega)), nI_clamp (by omega), l2 i (by omega), gck_t (gin_nI (by omega) (by omega)), nI_clamp (by omega), m_age h kM hth, gL_b, nI_add, nI_1, m_lv h kM (by omega), gB_v, x12_has hx (by omega), gB_v, m_lv h kM (by omega), gB_v, gL_b, gL_b, nI_1]
      by_cases c : x.testBit i = true
      · rw [if_pos c] at nx
        rw [if_neg (by rw [c]; decide)]
        exact nx
      · rw [if_neg c] at nx
        rw [if_pos (by rw [if_neg c])]
        exact nx
  unfold p_X12_weightOf
  rw [gck_t (gin_nI (by omega) (by omega)), nI_clamp (by omega), m_159 h kM, gL_b, gck_t (gin_nI (by omega) (by omega)), m_158 h kM, gck_t (gin_nI (by omega) (by omega)), nI_clamp (by omega), m_age h kM hT, nI_add, gL_b, nI_1, m_lv h kM (by omega), gB_v, m_lv h kM (by omega), gB_v, gL_b]
  exact key (lvL I P t s P).length gFu 0 (by omega) (by unfold gFu; omega) _
theorem cM_L {M M' : gIt} {J : gJt} (hc : cM I P t y s tb T M J) (hf : frL M M') : cM I P t y s tb T M' J := by
  obtain ⟨kM, ⟨l1, l2, l3⟩, l4⟩ := hc
  exact ⟨gkeep_tr kM (frL_keep hf), ⟨by rw [hf.2 40 (by decide)]; exact l1, fun i hi => by rw [hf.1 172 (by decide) (by decide) (by decide)]; exact l2 i hi, l3⟩, l4⟩
theorem gfA_le (h : rkH I P t y s tb T) (o x : Nat) : gfA I P t s o x ≤ 100000 := by
  obtain ⟨-, -, -, -, hset, -⟩ := h
  obtain ⟨⟨-, f1, f2⟩, -⟩ := hset
  obtain ⟨F, -, eF, tF⟩ := i_of (x := I (14 + 6 * s) 5) (by omega)
  have := fallOf_bd I P (aoB (pf (lvL I P t s P)) x (lvL I P t s P).length) s o
  rw [eF, nI_clamp (by omega)] at this
  unfold gfA
  omega
theorem x12_lets_r (h : rkH I P t y s tb T) {M : gIt} (kM : gkeep I M) (x : Nat) : ∃ M', p_X12_lets M (nI s) (nI (aoB (pf (lvL I P t s P)) x (lvL I P t s P).length)) = some M' ∧ (∀ o, o < 16 → M' 171 o = nI (gfA I P t s o x)) ∧ frL M M' := by
  obtain ⟨cx, -, -, hs10, hset, -⟩ := id h
  have cx2 := ctx_k kM cx
  have hset2 : iSet1 M P s := by rw [iSet1_k kM P s hs10]; exact hset
  obtain ⟨M', e, m, f⟩ := x12_lets cx2.1 cx2.2.2.1 cx2.2.2.2.1 (alv_k kM (ao_alv cx.1 x (I := I) (t := t) (s := s))) hs10 hset2
  refine ⟨M', e, fun o ho => ?_, f⟩
  rw [m.2 o ho, fallOf_k kM hs10]
  rfl
theorem x12_chance (h : rkH I P t y s tb T) (hT : thr I P t T = true) {J : gJt} {o : Nat} (ho : o < 16) (x5 : Int32) {M : gIt} (hc : cM I P t y s tb T M J) : ∃ M', p_X12_chance_44 J (nI s) (nI o) t y x5 gFu M 0 0 = some (hopV I P t y s tb T o, M', J) ∧ gkeep I M' := by
  have p4 := pow4 hc.2.2.1
  have hP := h.1.1
  have inner : ∀ (K44 : gIt → Int64 → Int32 → Option (Int64 × gIt × gJt)) (x : Nat) (M : gIt) (y1 : Int64), x < 16 → cM I P t y s tb T M J → M 171 o = nI (gfA I P t s o x) → ∀ (d f k : Nat), k + d = 400 → d < f → p_X12_chance_69 K44 M J (nI s) (nI o) t y x5 (nI x) f (y1 + sm (fun k => if 0 < gfA I P t s o x then wtA I P t y s tb T x k else 0) k) (nI k) = K44 M (y1 + sm (fun k => if 0 < gfA I P t s o x then wtA I P t y s tb T x k else 0) 400) (nI (x + 1)) := by
    intro K44 x M y1 hx hc hg d
    have hb := gfA_le h o x
    induction d with
    | zero =>
      intro f k hk hf
      obtain ⟨f, rfl⟩ : ∃ q, f = q + 1 := ⟨f - 1, by omega⟩
      have : k = 400 := by omega
      subst this
      unfold p_X12_chance_69
      rw [if_pos (show (400 : Int32) ≤ nI 400 by decide), nI_1]
    | succ d ih =>
      intro f k hk hf
      obtain ⟨f, rfl⟩ : ∃ q, f = q + 1 := ⟨f - 1, by omega⟩
      have nx := ih f (k + 1) (by omega) (by omega)
      unfold p_X12_chance_69
      rw [if_neg (show ¬ (400 : Int32) ≤ nI k from nI_ge (b := 400) (by omega) (by omega)), gck_t (gin_nI (by omega) (by omega)), nI_clamp (by omega), hg, x12_weight h hT hc (by omega) (by omega), gB_v, gL_b, nI_1, nI_1]
      by_cases c : 0 < gfA I P t s o x
      · rw [sm_s, ← Int64.add_assoc] at nx
        rw [if_pos c] at nx
        rw [if_neg (nI_nle c (by omega))]
        exact nx
      · have z : ∀ n, sm (fun k => if 0 < gfA I P t s o x then wtA I P t y s tb T x k else 0) n = 0 := fun n => sm_0 (fun i _ => if_neg c)
        rw [show gfA I P t s o x = 0 by omega, if_pos (by decide)]
        rw [show gfA I P t s o x = 0 by omega] at z
        rw [z, z]
  have outer : ∀ (d f x : Nat) (M : gIt), x + d = 2 ^ (lvL I P t s P).length → d < f → cM I P t y s tb T M J → ∃ M', p_X12_chance_44 J (nI s) (nI o) t y x5 f M (sm (fun x => sm (fun k => if 0 < gfA I P t s o x then wtA I P t y s tb T x k else 0) 400) x) (nI x) = some (hopV I P t y s tb T o, M', J) ∧ gkeep I M' := by
    intro d
    induction d with
    | zero =>
      intro f x M hx hf hc
      obtain ⟨f, rfl⟩ : ∃ q, f = q + 1 := ⟨f - 1, by omega⟩
      refine ⟨M, ?_, hc.1⟩
      unfold p_X12_chance_44
      rw [hc.2.1.1, shl1 (by have := hc.2.2.1; omega), if_pos (nI_le (by omega) (by omega)), show x = 2 ^ (lvL I P t s P).length by omega, hopV_400]
    | succ d ih =>
      intro f x M hx hf hc
      obtain ⟨f, rfl⟩ : ∃ q, f = q + 1 := ⟨f - 1, by omega⟩
      obtain ⟨M2, e2, g2, f2⟩ := x12_lets_r h hc.1 x
      have c2 := cM_L hc f2
      unfold p_X12_chance_44
      rw [hc.2.1.1, shl1 (by have := hc.2.2.1; omega), if_neg (nI_ge (by omega) (by omega)), x12_aliveOf hP hc (by omega), gB_v, e2, gB_v]
      have := inner (fun I y6 x8 => p_X12_chance_44 J (nI s) (nI o) t y x5 f I y6 x8) x M2 (sm (fun x => sm (fun k => if 0 < gfA I P t s o x then wtA I P t y s tb T x k else 0) 400) x) (by omega) c2 (g2 o ho) 400 gFu 0 (by omega) (by unfold gFu; omega)
      rw [show sm (fun k => if 0 < gfA I P t s o x then wtA I P t y s tb T x k else 0) 0 = 0 from rfl, Int64.add_zero] at this
      rw [show p_X12_chance_69 (fun I y6 x8 => p_X12_chance_44 J (nI s) (nI o) t y x5 f I y6 x8) M2 J (nI s) (nI o) t y x5 (nI x) gFu (sm (fun x => sm (fun k => if 0 < gfA I P t s o x then wtA I P t y s tb T x k else 0) 400) x) 0 = _ from this]
      exact ih f (x + 1) M2 (by omega) (by omega) c2
  exact outer (2 ^ (lvL I P t s P).length) gFu 0 M (by omega) (by unfold gFu; omega) hc
theorem gf173 (j : Nat) : gfree 173 j := by unfold gfree gco; omega
theorem x12_worthOf (h : rkH I P t y s tb T) (hT : thr I P t T = true) {J : gJt} {o i : Nat} (ho : o < 16) (hi : i ≤ 20) (ei : I 149 8 = nI i) {M : gIt} (hc : cM I P t y s tb T M J) : ∃ M', p_X12_worthOf M J (nI s) (nI o) y = some (worV I P t y s tb T o i 110, M') ∧ gkeep I M' := by
  have p4 := pow4 hc.2.2.1
  have hP := h.1.1
  have hwl := whN_lt h hc.2.2.1
  have hw0 := hc.2.2.2
  have hJ : J 149 42 = lN (whN I tb y T (lvL I P t s P)) := hc.2.1.2.2
  have hJ0 : ¬ lN (whN I tb y T (lvL I P t s P)) = 0 := fun q => by have := (pk_lEQ (b := 0) (by omega) (by omega)).mp q; omega
  have inner : ∀ (K54 : Int64 → Int32 → Int32 → Option (Int64 × gIt)) (k : Nat) (M : gIt) (y1 : Int64), k < 400 → cM I P t y s tb T M J → (∀ i, i < 2 ^ (lvL I P t s P).length → M 173 i = nI (gfA I P t s o i)) → ∀ (d f x : Nat), x + d = 2 ^ (lvL I P t s P).length → d < f → p_X12_worthOf_68 K54 M J (nI s) (nI o) y y1 (nI (dsc i k)) (nI k) f (sm (fun x => wtA I P t y s tb T x k * Int32.toInt64 (nI (gfA I P t s o x))) x) (nI x) = K54 (y1 + wgV I P t y s tb T o k / lN (whN I tb y T (lvL I P t s P)) * lN (dsc i (k + 1)) / 1000000) (nI (dsc i (k + 1))) (nI (k + 1)) := by
    intro K54 k M y1 hk hc hg d
    have h1 := dsc_le i k
    have h2 := dsc_le i (k + 1)
    have e1 : 100 + M 149 8 = nI (100 + i) := by rw [hc.1.2.2.2.2.2.2.2.2.2.2.1, ei]; show nI 100 + nI i = _; rw [nI_add]
    have e2 : 100 * nI (dsc i k) = nI (100 * dsc i k) := by show nI 100 * _ = _; rw [pk_mul]
    have e3 : decide (¬ nI (100 + i) = 0) = true := by
      rw [decide_eq_true_eq]
      exact nI_ne0 (by omega) (by omega)
    have e4 : nI (100 * dsc i k) / nI (100 + i) = nI (dsc i (k + 1)) := by rw [pk_div (by omega) (by omega) (by omega)]; rfl
    induction d with
    | zero =>
      intro f x hx hf
      obtain ⟨f, rfl⟩ : ∃ q, f = q + 1 := ⟨f - 1, by omega⟩
      unfold p_X12_worthOf_68
      rw [hc.2.1.1, shl1 (by have := hc.2.2.1; omega), if_pos (nI_le (by omega) (by omega)), e1, e2, gck_t e3, e4, gL_b, hJ, gck_t (decide_eq_true hJ0), gL_b, nI_l (by omega), nI_1, show x = 2 ^ (lvL I P t s P).length by omega]
      rfl
    | succ d ih =>
      intro f x hx hf
      obtain ⟨f, rfl⟩ : ∃ q, f = q + 1 := ⟨f - 1, by omega⟩
      unfold p_X12_worthOf_68
      rw [hc.2.1.1, shl1 (by have := hc.2.2.1; omega), if_neg (nI_ge (by omega) (by omega)), x12_weight h hT hc (by omega) hk, gB_v, gck_t (gin_nI (by omega) (by omega)), nI_clamp (by omega), hg x (by omega), gL_b, nI_1]
      exact ih f (x + 1) (by omega) (by omega)
  have outer : ∀ (M : gIt), cM I P t y s tb T M J → (∀ i, i < 2 ^ (lvL I P t s P).length → M 173 i = nI (gfA I P t s o i)) → ∀ (d f k : Nat), k + d = 400 → d < f → p_X12_worthOf_54 M J (nI s) (nI o) y f (worV I P t y s tb T o i k) (nI (dsc i k)) (nI k) = some (worV I P t y s tb T o i 110, M) := by
    intro M hc hg d
    induction d with
    | zero =>
      intro f k hk hf
      obtain ⟨f, rfl⟩ : ∃ q, f = q + 1 := ⟨f - 1, by omega⟩
      have : k = 400 := by omega
      subst this
      unfold p_X12_worthOf_54
      rw [if_pos (show (400 : Int32) ≤ nI 400 by decide), worV_400]
    | succ d ih =>
      intro f k hk hf
      obtain ⟨f, rfl⟩ : ∃ q, f = q + 1 := ⟨f - 1, by omega⟩
      unfold p_X12_worthOf_54
      rw [if_neg (show ¬ (400 : Int32) ≤ nI k from nI_ge (b := 400) (by omega) (by omega))]
      have := inner (fun y4 x6 x7 => p_X12_worthOf_54 M J (nI s) (nI o) y f y4 x6 x7) k M (worV I P t y s tb T o i k) (by omega) hc hg (2 ^ (lvL I P t s P).length) gFu 0 (by omega) (by unfold gFu; omega)
      rw [show p_X12_worthOf_68 (fun y4 x6 x7 => p_X12_worthOf_54 M J (nI s) (nI o) y f y4 x6 x7) M J (nI s) (nI o) y (worV I P t y s tb T o i k) (nI (dsc i k)) (nI k) gFu 0 0 = _ from this]
      exact ih f (k + 1) (by omega) (by omega)
  have first : ∀ (d f x : Nat) (M : gIt), x + d = 2 ^ (lvL I P t s P).length → d < f → cM I P t y s tb T M J → (∀ i, i < x → M 173 i = nI (gfA I P t s o i)) → ∃ M', p_X12_worthOf_3 J (nI s) (nI o) y f M (nI x) = some (worV I P t y s tb T o i 110, M') ∧ gkeep I M' := by
    intro d
    induction d with
    | zero =>
      intro f x M hx hf hc hg
      obtain ⟨f, rfl⟩ : ∃ q, f = q + 1 := ⟨f - 1, by omega⟩
      refine ⟨M, ?_, hc.1⟩
      unfold p_X12_worthOf_3
      rw [hc.2.1.1, shl1 (by have := hc.2.2.1; omega), if_pos (nI_le (by omega) (by omega))]
      exact outer M hc (by rw [← hx]; exact hg) 400 gFu 0 (by omega) (by unfold gFu; omega)
    | succ d ih =>
      intro f x M hx hf hc hg
      obtain ⟨f, rfl⟩ : ∃ q, f = q + 1 := ⟨f - 1, by omega⟩
      obtain ⟨M2, e2, g2, f2⟩ := x12_lets_r h hc.1 x
      have c2 := cM_L hc f2
      unfold p_X12_worthOf_3
      rw [hc.2.1.1, shl1 (by have := hc.2.2.1; omega), if_neg (nI_ge (by omega) (by omega)), x12_aliveOf hP hc (by omega), gB_v, e2, gB_v, gck_t (gin_nI (by omega) (by omega)), nI_clamp (by omega), g2 o ho, gL_b, gck_t (gin_nI (by omega) (by omega)), nI_clamp (by omega), gL_b, nI_1]
      obtain ⟨q1, ⟨q2, q3, q4⟩, q5⟩ := c2
      refine ih f (x + 1) _ (by omega) (by omega) ⟨gkeep_tr q1 (gkeep_w (gf173 x)), ⟨by rw [gu_rd (by decide)]; exact q2, fun i hi => by rw [gu_rd (by decide)]; exact q3 i hi, q4⟩, q5⟩ (fun i hi => ?_)
      rw [gu_sl]
      by_cases e : i = x
      · rw [if_pos e, e]
      · rw [if_neg e, f2.1 173 (by decide) (by decide) (by decide)]
        exact hg i (by omega)
  unfold p_X12_worthOf
  exact first (2 ^ (lvL I P t s P).length) gFu 0 M (by omega) (by unfold gFu; omega) hc (fun i hi => absurd hi (Nat.not_lt_zero i))
end Mk
/-- the bundle, out of the invariant -/
theorem rkH_of {I : gIt} {w : Bool} {P ns nS nC nP nT : Nat} (hs : iScal I P ns nS nC nP nT) (hr : iRest I w P ns nS nC nP nT) {s : Nat} (h : s < ns) {t y : Int32} (h1 : t.toInt ≤ y.toInt) (h2 : y.toInt ≤ 1999) : ∃ tb T i, rkH I P t y s tb T ∧ i ≤ 20 ∧ I 9 1 = nI i ∧ I 149 8 = nI i := by
  obtain ⟨⟨y1, y2, y3⟩, ⟨b1, b1', b1''⟩, ⟨b2, b2', b2''⟩, -, -, -, -, ⟨b8, b8', b8''⟩, -⟩ := id hs
  have hset := hr.2.2.2.2.2.2.2.1 s h
  obtain ⟨-, ⟨-, T, hT, eT⟩, ⟨-, t1, t2⟩, -⟩ := id hset
  obtain ⟨tb, -, etb, ttb⟩ := i_of t1
  obtain ⟨i, -, ei, ti⟩ := i_of b8'
  exact ⟨tb, T, i, ⟨⟨b1'', b1, b1', hr.1, y3, y1⟩, hr.2.1, ⟨h1, h2⟩, by omega, hset, eT, hT, etb, by omega, i, by omega, ei, b8.trans ei⟩, by omega, ei, b8.trans ei⟩
/-- asked: the class's reckons and the reference's isAsked say the same -/
theorem asked {I : gIt} {J : gJt} {w : Bool} (hI : gInv I J w) (x1 x2 x3 x4 : Int32) : ∃ v r J1, p_X11_reckons I J x1 x2 x3 x4 = some (v, r, J1) ∧ gkeep I r ∧ ((v = 0 ∧ ∀ M J2, gkeep I M → ∃ M' J', p_X12_isAsked M J2 x1 x2 x3 x4 = some (0, M', J') ∧ gkeep I M') ∨ (v = 1 ∧ ∃ P s o tb T i, x1 = nI s ∧ x2 = nI o ∧ o < 16 ∧ rkH I P x3 x4 s tb T ∧ thr I P x3 T = true ∧ i ≤ 20 ∧ I 9 1 = nI i ∧ I 149 8 = nI i ∧ cR I P x3 x4 s tb T r J1 ∧ (∀ j, j < 2 ^ (lvL I P x3 s P).length → r 83 j = nI (gfA I P x3 s o j)) ∧ ∀ M J2, gkeep I M → ∃ M' J', p_X12_isAsked M J2 x1 x2 x3 x4 = some (1, M', J') ∧ cM I P x3 x4 s tb T M' J')) := by
  obtain ⟨P, ns, nS, nC, nP, nT, hs, hr⟩ := id hI
  obtain ⟨⟨y1, y2, y3⟩, ⟨b1, b1', b1''⟩, ⟨b2, b2', b2''⟩, -⟩ := id hs
  have m4 : ∀ M, gkeep I M → M 149 4 = nI ns := fun M k => by rw [k.2.2.2.2.2.2.1]; exact b2'
  have m3 : ∀ M, gkeep I M → M 149 3 = nI P := fun M k => by rw [k.2.2.2.2.2.1]; exact b1'
  by_cases c1 : 0 ≤ x1.toInt ∧ x1.toInt < ns
  · obtain ⟨s, -, rfl, ts⟩ := i_of c1.1
    by_cases c2 : 0 ≤ x2.toInt ∧ x2.toInt < P
    · obtain ⟨o, -, rfl, to⟩ := i_of c2.1
      by_cases c3 : 1700 ≤ x3.toInt ∧ x3.toInt ≤ 1999
      · by_cases c4 : x3.toInt ≤ x4.toInt ∧ x4.toInt ≤ 1999
        · obtain ⟨tb, T, i, h, hi, ei, ei'⟩ := rkH_of hs hr (s := s) (by omega) c4.1 c4.2
          obtain ⟨v, r, J1, e1, k1, hv⟩ := x1_reckon h J (o := o) (by omega)
          have e3 : ∀ M J2, gkeep I M → ∀ v2 M' J', p_X12_isReckoned M J2 (nI s) x3 x4 = some (v2, M', J') → p_X12_isAsked M J2 (nI s) (nI o) x3 x4 = if v2 = 0 then some (0, M', J') else some (1, M', J') := fun M J2 kM v2 M' J' e2 => by
            unfold p_X12_isAsked
            rw [gB_y _ (x12_isSettlement M b2'' (m4 M kM) _) c1, if_neg (by decide), gB_y _ (x12_isPerson M b1'' (m3 M kM) _) c2, if_neg (by decide), gB_y _ (x12_isYear x3) c3, if_neg (by decide), lies_y _ (by simp only [i32_toInt64, Int64.reduceToInt]; omega), if_neg (by decide), e2, gB_v]
          refine ⟨v, r, J1, ?_, k1, ?_⟩
          · unfold p_X11_reckons
            rw [x11_settlementOf b2'' b2, if_pos c1, nI_clamp (by omega)]
            show gB (p_X7_has I (nI o)) _ = _
            rw [gB_y _ (x7_has I b1'' b1 _) c2, if_neg (by decide), gB_y _ (x11_isYear x3) c3, if_neg (by decide), if_neg (by rw [Int32.lt_iff_toInt_lt]; omega), if_pos (by rw [Int32.le_iff_toInt_le]; simp only [Int32.reduceToInt]; omega), e1, gB_v]
            dsimp only
            rw [gck_t (by rcases hv with ⟨rfl, -⟩ | ⟨rfl, -⟩ <;> rfl)]
          · rcases hv with ⟨rfl, q1, q2, q3⟩ | ⟨rfl, q1⟩
            · refine Or.inr ⟨rfl, P, s, o, tb, T, i, rfl, rfl, by omega, h, q1.1, hi, ei, ei', q2, q3, fun M J2 kM => ?_⟩
              obtain ⟨v2, M', J', e2, k2, hv2⟩ := x12_isReckoned h kM J2
              have e4 := e3 M J2 kM v2 M' J' e2
              rcases hv2 with ⟨rfl, z1, z2⟩ | ⟨rfl, z1⟩
              · exact ⟨M', J', e4, z2⟩
              · exact absurd q1 z1
            · refine Or.inl ⟨rfl, fun M J2 kM => ?_⟩
              obtain ⟨v2, M', J', e2, k2, hv2⟩ := x12_isReckoned h kM J2
              have e4 := e3 M J2 kM v2 M' J' e2
              rcases hv2 with ⟨rfl, z1, z2⟩ | ⟨rfl, z1⟩
              · exact absurd z1 q1
              · exact ⟨M', J', e4, k2⟩
        · refine ⟨0, I, J, ?_, gkeep_rf I, Or.inl ⟨rfl, fun M J2 kM => ⟨M, J2, ?_, kM⟩⟩⟩
          · unfold p_X11_reckons
            rw [x11_settlementOf b2'' b2, if_pos c1]
            show gB (p_X7_has I (nI o)) _ = _
            rw [gB_y _ (x7_has I b1'' b1 _) c2, if_neg (by decide), gB_y _ (x11_isYear x3) c3, if_neg (by decide)]
            simp only [Int32.lt_iff_toInt_lt, Int32.le_iff_toInt_le, Int32.reduceToInt]
            by_cases d : x4.toInt < x3.toInt
            · rw [if_pos d]
            · rw [if_neg d, if_neg (by omega)]
          · unfold p_X12_isAsked
            rw [gB_y _ (x12_isSettlement M b2'' (m4 M kM) _) c1, if_neg (by decide), gB_y _ (x12_isPerson M b1'' (m3 M kM) _) c2, if_neg (by decide), gB_y _ (x12_isYear x3) c3, if_neg (by decide), lies_n _ (by simp only [i32_toInt64, Int64.reduceToInt]; omega), if_pos rfl]
      · refine ⟨0, I, J, ?_, gkeep_rf I, Or.inl ⟨rfl, fun M J2 kM => ⟨M, J2, ?_, kM⟩⟩⟩
        · unfold p_X11_reckons
          rw [x11_settlementOf b2'' b2, if_pos c1]
          show gB (p_X7_has I (nI o)) _ = _
          rw [gB_y _ (x7_has I b1'' b1 _) c2, if_neg (by decide), gB_n _ (x11_isYear x3) c3, if_pos rfl]
        · unfold p_X12_isAsked
          rw [gB_y _ (x12_isSettlement M b2'' (m4 M kM) _) c1, if_neg (by decide), gB_y _ (x12_isPerson M b1'' (m3 M kM) _) c2, if_neg (by decide), gB_n _ (x12_isYear x3) c3, if_pos rfl]
    · refine ⟨0, I, J, ?_, gkeep_rf I, Or.inl ⟨rfl, fun M J2 kM => ⟨M, J2, ?_, kM⟩⟩⟩
      · unfold p_X11_reckons
        rw [x11_settlementOf b2'' b2, if_pos c1]
        show gB (p_X7_has I x2) _ = _
        rw [gB_n _ (x7_has I b1'' b1 _) c2, if_pos rfl]
      · unfold p_X12_isAsked
        rw [gB_y _ (x12_isSettlement M b2'' (m4 M kM) _) c1, if_neg (by decide), gB_n _ (x12_isPerson M b1'' (m3 M kM) _) c2, if_pos rfl]
  · refine ⟨0, I, J, ?_, gkeep_rf I, Or.inl ⟨rfl, fun M J2 kM => ⟨M, J2, ?_, kM⟩⟩⟩
    · unfold p_X11_reckons
      rw [x11_settlementOf b2'' b2, if_neg c1]
      rfl
    · unfold p_X12_isAsked
      rw [gB_n _ (x12_isSettlement M b2'' (m4 M kM) _) c1, if_pos rfl]
theorem EE12 : EE_12 gInv := by
  intro I J w x1 x2 x3 x4 hI
  obtain ⟨v, r, J1, e1, k1, ⟨rfl, hm⟩ | ⟨rfl, P, s, o, tb, T, i, rfl, rfl, ho, h, hT, hi, ei, ei', hc, hg, hm⟩⟩ := asked hI x1 x2 x3 x4
  · obtain ⟨M', J', e2, k2⟩ := hm r J1 k1
    refine ⟨(-1, r, J1), ?_, (-1, M', J'), ?_, rfl, gInv_k k2 hI⟩
    · unfold p_X11_worth
      rw [e1, gB_v]
      rfl
    · show p_X12_worth r J1 x1 x2 x3 x4 = _
      unfold p_X12_worth
      rw [e2, gB_v]
      rfl
  · obtain ⟨r2, e2, k2⟩ := x1_worthNow h hT hi ei hc hg
    obtain ⟨M', J', e3, hM⟩ := hm r2 J1 k2
    obtain ⟨M2, e4, k4⟩ := x12_worthOf h hT ho hi ei' hM
    refine ⟨(worV I P x3 x4 s tb T o i 110, r2, J1), ?_, (worV I P x3 x4 s tb T o i 110, M2, J'), ?_, rfl, gInv_k k4 hI⟩
    · unfold p_X11_worth
      rw [e1, gB_v]
      dsimp only
      rw [if_neg (by decide), e2, gB_v]
    · show p_X12_worth r2 J1 (nI s) (nI o) x3 x4 = _
      unfold p_X12_worth
      rw [e3, gB_v]
      dsimp only
      rw [if_neg (by decide), e4, gB_v]
theorem EE11 : EE_11 gInv := by
  intro I J w x1 x2 x3 x4 x5 hI
  by_cases c5 : 0 ≤ x5.toInt ∧ x5.toInt ≤ 1
  · have n1 : ¬ x5 < 0 := by rw [Int32.lt_iff_toInt_lt]; simp only [Int32.reduceToInt]; omega
    have n2 : ¬ (1 : Int32) < x5 := by rw [Int32.lt_iff_toInt_lt]; simp only [Int32.reduceToInt]; omega
    have ml : ∀ f : Int32 → Option (Int64 × gIt × gJt), gB (p_X12_lies (Int32.toInt64 x5) 0 1) f = f 1 := fun f => lies_y _ (by simp only [i32_toInt64, Int64.reduceToInt]; omega)
    obtain ⟨v, r, J1, e1, k1, ⟨rfl, hm⟩ | ⟨rfl, P, s, o, tb, T, i, rfl, rfl, ho, h, hT, hi, ei, ei', hc, hg, hm⟩⟩ := asked hI x1 x2 x3 x4
    · obtain ⟨M', J', e2, k2⟩ := hm r J1 k1
      refine ⟨(-1, r, J1), ?_, (-1, M', J'), ?_, rfl, gInv_k k2 hI⟩
      · unfold p_X11_chance
        rw [if_neg n1, if_neg n2, e1, gB_v]
        rfl
      · show p_X12_chance r J1 x1 x2 x3 x4 x5 = _
        unfold p_X12_chance
        rw [ml, if_neg (by decide), e2, gB_v]
        rfl
    · by_cases c0 : x5 = 0
      · obtain ⟨r2, e2, k2⟩ := x1_hopeful h hT hc hg (gfA_le h o)
        obtain ⟨M', J', e3, hM⟩ := hm r2 J1 k2
        obtain ⟨M2, e4, k4⟩ := x12_chance h hT ho x5 hM
        refine ⟨(hopV I P x3 x4 s tb T o, r2, J1), ?_, (hopV I P x3 x4 s tb T o, M2, J'), ?_, rfl, gInv_k k4 hI⟩
        · unfold p_X11_chance
          rw [if_neg n1, if_neg n2, e1, gB_v]
          dsimp only
          rw [if_neg (by decide), if_pos c0, e2, gB_v]
        · show p_X12_chance r2 J1 (nI s) (nI o) x3 x4 x5 = _
          unfold p_X12_chance
          rw [ml, if_neg (by decide), e3, gB_v]
          dsimp only
          rw [if_neg (by decide), if_neg (by rw [c0]; decide)]
          exact e4
      · have c1 : x5 = 1 := by
          apply Int32.toInt_inj.mp
          have : ¬ x5.toInt = 0 := fun q => c0 (Int32.toInt_inj.mp q)
          simp only [Int32.reduceToInt]
          omega
        obtain ⟨M', J', e3, hM⟩ := hm r J1 k1
        refine ⟨(lN (whN I tb x4 T (lvL I P x3 s P)), r, J1), ?_, (lN (whN I tb x4 T (lvL I P x3 s P)), M', J'), ?_, rfl, gInv_k hM.1 hI⟩
        · unfold p_X11_chance
          rw [if_neg n1, if_neg n2, e1, gB_v]
          dsimp only
          rw [if_neg (by decide), if_neg c0, hc.2.2.2.1.2.2]
        · show p_X12_chance r J1 (nI s) (nI o) x3 x4 x5 = _
          unfold p_X12_chance
          rw [ml, if_neg (by decide), e3, gB_v]
          dsimp only
          rw [if_neg (by decide), if_pos c1, hM.2.1.2.2]
  · refine ⟨(-1, I, J), ?_, (-1, I, J), ?_, rfl, hI⟩
    · unfold p_X11_chance
      simp only [Int32.lt_iff_toInt_lt, Int32.reduceToInt]
      by_cases d : x5.toInt < 0
      · rw [if_pos d]
      · rw [if_neg d, if_pos (by omega)]
    · show p_X12_chance I J x1 x2 x3 x4 x5 = _
      unfold p_X12_chance
      rw [lies_n _ (by simp only [i32_toInt64, Int64.reduceToInt]; omega), if_pos rfl]
