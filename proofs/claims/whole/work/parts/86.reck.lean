/-! ===== the class reckons ===== -/
theorem sm_s (f : Nat → Int64) (n : Nat) : sm f (n + 1) = sm f n + f n := rfl
theorem aoB_s (p : Nat → Nat) (x i : Nat) : aoB p x (i + 1) = aoB p x i ||| if x.testBit i then 2 ^ p i else 0 := rfl
section Ck
variable {I : gIt} {P : Nat} {t y : Int32} {s tb T : Nat}
def frC (r0 r : gIt) : Prop := (∀ x, x ≠ 78 → x ≠ 79 → x ≠ 80 → x ≠ 81 → r x = r0 x) ∧ ∀ j, j ≠ 9 → r 78 j = r0 78 j
def lS (I : gIt) (tb : Nat) (y : Int32) (T : Nat) (l : List Nat) (r : gIt) (J : gJt) : Prop := r 78 9 = nI l.length ∧ (∀ i, i < l.length → r 79 i = nI (agN I y (pf l i)) ∧ r 80 i = lvs (I 10) tb (agN I y (pf l i)) ∧ r 81 i = nI (pf l i)) ∧ J 78 12 = lN (whN I tb y T l)
theorem frC_keep {r0 r : gIt} (h : frC r0 r) : gkeep r0 r := by
  obtain ⟨h1, h2⟩ := h
  refine ⟨fun x hx => h1 x (by rintro rfl; unfold gco at hx; omega) (by rintro rfl; unfold gco at hx; omega) (by rintro rfl; unfold gco at hx; omega) (by rintro rfl; unfold gco at hx; omega), ⟨?_, ?_, ?_, ?_, ?_, ?_, ?_, ?_, ?_, ?_⟩, ⟨?_, ?_, ?_, ?_, ?_, ?_⟩, ?_, ?_, ?_, ?_, ?_, ?_, ?_, ?_, ?_, ?_, ?_⟩ <;> rw [h1 _ (by decide) (by decide) (by decide) (by decide)]
theorem lS_app {r : gIt} {J : gJt} {l : List Nat} {k : Nat} (h : rkH I P t y s tb T) (hl : lS I tb y T l r J) (h4 : l.length < 4) {v : Int32} {u : Int64} (ev : v = nI (hsN I tb y k)) (eu : u = J 78 12 * Int32.toInt64 v) : lS I tb y T (l ++ [k]) (gu2 (gu2 (gu2 (gu2 r 81 l.length (nI k)) 79 l.length (nI (agN I y k))) 80 l.length v) 78 9 (nI (l.length + 1))) (gu2 J 78 12 u) := by
  obtain ⟨h1, h2, h3⟩ := hl
  refine ⟨?_, fun i hi => ?_, ?_⟩
  · rw [gu_sl, if_pos rfl, List.length_append]; rfl
  · rw [List.length_append] at hi
    have hi1 : i < l.length + 1 := hi
    simp only [gu_sl, gu_rd, ne_eq, Nat.reduceEqDiff, not_false_eq_true]
    by_cases e : i = l.length
    · rw [e, if_pos rfl, if_pos rfl, if_pos rfl, pf_r, ev, (hs_of h k).1]
      exact ⟨rfl, rfl, rfl⟩
    · rw [if_neg e, if_neg e, if_neg e, pf_l (by omega)]
      exact h2 i (by omega)
  · rw [gu_sl, if_pos rfl, eu, h3, ev, nI_l (by have := (hs_of h k).2; omega), lN_mul, whN_app]
theorem x1_list {r0 : gIt} (h : rkH I P t y s tb T) (kr : gkeep I r0) (e10 : r0 78 10 = nI tb) {Sx : Nat} (hS : Sx < 2 ^ 32) (hb : ∀ o, o < 16 → Sx.testBit o = lcd I P t s o) : ∀ (d f k : Nat) (r : gIt) (J : gJt), k + d = P → d < f → frC r0 r → lS I tb y T (lvL I P t s k) r J → gdk I P t y s tb T k → ∃ v r' J', p_X1_listLiving_7 (nI Sx) y f r J (nI k) = some (v, r', J') ∧ frC r0 r' ∧ ((v = 1 ∧ lS I tb y T (lvL I P t s P) r' J' ∧ gdk I P t y s tb T P) ∨ (v = 0 ∧ ¬ gdk I P t y s tb T P)) := by
  intro d
  have hP := h.1.1
  induction d with
  | zero =>
    intro f k r J hk hf hfr hl hg
    obtain ⟨f, rfl⟩ : ∃ q, f = q + 1 := ⟨f - 1, by omega⟩
    have : k = P := by omega
    subst this
    refine ⟨1, r, J, ?_, hfr, Or.inl ⟨rfl, hl, hg⟩⟩
    unfold p_X1_listLiving_7
    rw [hfr.1 1 (by decide) (by decide) (by decide) (by decide), kr.2.1.2.2.2.2.1, h.1.2.1, if_pos (nI_le (by omega) (by omega))]
  | succ d ih =>
    intro f k r J hk hf hfr hl hg
    obtain ⟨f, rfl⟩ : ∃ q, f = q + 1 := ⟨f - 1, by omega⟩
    unfold p_X1_listLiving_7
    rw [hfr.1 1 (by decide) (by decide) (by decide) (by decide), kr.2.1.2.2.2.2.1, h.1.2.1, if_neg (nI_ge (by omega) (by omega)), if_neg (show ¬ (16 : Int32) ≤ nI k from nI_ge (b := 16) (by omega) (by omega)), ush1 hS (by omega), hb k (by omega), nI_1]
    by_cases c : lcd I P t s k = true
    · have eL : lvL I P t s (k + 1) = lvL I P t s k ++ [k] := by
        show (if lcd I P t s k then _ else _) = _
        rw [if_pos c]
      have nogo : ¬ gdk I P t y s tb T (k + 1) → ¬ gdk I P t y s tb T P := fun q z => q (gdk_m (k := k + 1) d (by rw [show k + 1 + d = P by omega]; exact z))
      have hth := lcd_thr (by omega) c
      obtain ⟨a1, a2⟩ := ag_of h hth
      have k2 : gkeep I r := gkeep_tr kr (frC_keep hfr)
      have g16 : gin (nI k) 16 = true := gin_nI (by omega) (by omega)
      obtain ⟨s1, s2⟩ := hs_of h k
      obtain ⟨l1, l2, l3⟩ := id hl
      have e10' : r 78 10 = nI tb := by rw [hfr.2 10 (by decide)]; exact e10
      rw [if_neg (by rw [c]; decide), gck_t g16, nI_clamp (by omega), k2.1 2 (by unfold gco; omega), a1, e10', x6_livesAt h.2.2.2.2.2.2.2.2.1 (by omega), gB_v, k2.1 10 (by unfold gco; omega), s1, l1]
      by_cases c4 : 4 ≤ (lvL I P t s k).length
      · rw [if_pos (show (4 : Int32) ≤ nI _ from nI_le (a := 4) c4 (by have := hg.1; omega))]
        refine ⟨0, r, J, rfl, hfr, Or.inr ⟨rfl, nogo (fun z => ?_)⟩⟩
        have := z.1
        rw [eL, List.length_append] at this
        have : [k].length = 1 := rfl
        omega
      · rw [if_neg (show ¬ (4 : Int32) ≤ nI _ from nI_ge (b := 4) (by omega) (by omega))]
        by_cases c0 : 0 < hsN I tb y k
        · have g4 : gin (nI (lvL I P t s k).length) 4 = true := gin_nI (by omega) (by omega)
          rw [if_pos (show (0 : Int32) < nI _ from nI_lt (a := 0) c0 (by omega)), gck_t g4, gL_b, gck_t g16]
          simp only [gL_b, gu_rd, ne_eq, Nat.reduceEqDiff, not_false_eq_true, l1, gck_t g4, nI_clamp (show (lvL I P t s k).length < 2 ^ 31 by omega), nI_1, k2.1 2 (show gco 2 by unfold gco; omega), a1]
          have hl2 := lS_app (k := k) h hl (by omega) (v := nI (hsN I tb y k)) (u := J 78 12 * Int32.toInt64 (nI (hsN I tb y k))) rfl rfl
          rw [← eL] at hl2
          refine ih f (k + 1) _ _ (by omega) (by omega) ⟨fun x h1 h2 h3 h4 => ?_, fun j hj => ?_⟩ hl2 ⟨?_, ?_⟩
          · rw [gu2_ne h1, gu2_ne h3, gu2_ne h2, gu2_ne h4]; exact hfr.1 x h1 h2 h3 h4
          · rw [gu_sl, if_neg hj, gu_rd (by decide), gu_rd (by decide), gu_rd (by decide)]; exact hfr.2 j hj
          · rw [eL, List.length_append]
            have : [k].length = 1 := rfl
            omega
          · rw [eL, whN_app]
            exact Nat.mul_pos hg.2 c0
        · rw [if_neg (show ¬ (0 : Int32) < nI _ by rw [show hsN I tb y k = 0 by omega]; decide)]
          refine ⟨0, r, J, rfl, hfr, Or.inr ⟨rfl, nogo (fun z => ?_)⟩⟩
          have := z.2
          rw [eL, whN_app, show hsN I tb y k = 0 by omega, Nat.mul_zero] at this
          omega
    · have eL : lvL I P t s (k + 1) = lvL I P t s k := by
        show (if lcd I P t s k then _ else _) = _
        rw [if_neg c]
      rw [if_pos (by rw [if_neg c])]
      exact ih f (k + 1) r J (by omega) (by omega) hfr (by rw [eL]; exact hl) (by unfold gdk; rw [eL]; exact hg)
/-- what the class knows of a reckoning -/
def cR (I : gIt) (P : Nat) (t y : Int32) (s tb T : Nat) (r : gIt) (J : gJt) : Prop := gkeep I r ∧ r 78 10 = nI tb ∧ r 78 11 = nI (agN I y T) ∧ lS I tb y T (lvL I P t s P) r J ∧ gdk I P t y s tb T P
theorem x1_persons {r : gIt} {J : gJt} (hP : P ≤ 16) (hc : cR I P t y s tb T r J) {x : Nat} (hx : x < 2 ^ 32) : p_X1_personsOf r (nI x) = some (nI (aoB (pf (lvL I P t s P)) x (lvL I P t s P).length)) := by
  obtain ⟨-, -, -, ⟨l1, l2, -⟩, l4, -⟩ := hc
  have key : ∀ (d f k : Nat), k + d = (lvL I P t s P).length → d < f → p_X1_personsOf_4 r (nI x) f (nI (aoB (pf (lvL I P t s P)) x k)) (nI k) = some (nI (aoB (pf (lvL I P t s P)) x (lvL I P t s P).length)) := by
    intro d
    induction d with
    | zero =>
      intro f k hk hf
      obtain ⟨f, rfl⟩ : ∃ q, f = q + 1 := ⟨f - 1, by omega⟩
      unfold p_X1_personsOf_4
      rw [l1, if_pos (nI_le (by omega) (by omega)), show k = (lvL I P t s P).length by omega]
    | succ d ih =>
      intro f k hk hf
      obtain ⟨f, rfl⟩ : ∃ q, f = q + 1 := ⟨f - 1, by omega⟩
      have nx := ih f (k + 1) (by omega) (by omega)
      have hp := (lvL_mem (I := I) (P := P) (t := t) (s := s) P k (by omega)).1
      unfold p_X1_personsOf_4
      rw [l1, if_neg (nI_ge (by omega) (by omega)), if_neg (show ¬ (4 : Int32) ≤ nI k from nI_ge (b := 4) (by omega) (by omega)), ush1 hx (by omega), gck_t (gin_nI (by omega) (by omega)), nI_clamp (by omega), (l2 k (by omega)).2.2, shl1 (by omega), nI_or, gL_b, nI_1]
      rw [aoB_s] at nx
      by_cases c : x.testBit k = true
      · rw [if_pos c] at nx
        rw [if_pos (by rw [c]; rfl)]
        exact nx
      · rw [if_neg c, Nat.or_zero] at nx
        rw [if_neg (by rw [if_neg c]; decide)]
        exact nx
  unfold p_X1_personsOf
  exact key (lvL I P t s P).length gFu 0 (by omega) (by unfold gFu; omega)
theorem cR_w {r r' : gIt} {J : gJt} (hc : cR I P t y s tb T r J) (hk : gkeep r r') (h : ∀ x, 78 ≤ x → x ≤ 81 → r' x = r x) : cR I P t y s tb T r' J := by
  obtain ⟨c1, c2, c3, ⟨l1, l2, l3⟩, c5⟩ := hc
  refine ⟨gkeep_tr c1 hk, by rw [h 78 (by omega) (by omega)]; exact c2, by rw [h 78 (by omega) (by omega)]; exact c3, ⟨by rw [h 78 (by omega) (by omega)]; exact l1, fun i hi => ?_, l3⟩, c5⟩
  rw [h 79 (by omega) (by omega), h 80 (by omega) (by omega), h 81 (by omega) (by omega)]
  exact l2 i hi
theorem pow4 {n : Nat} (h : n ≤ 4) : 2 ^ n ≤ 16 := show 2 ^ n ≤ 2 ^ 4 from Nat.pow_le_pow_right (by omega) h
theorem gf83 (j : Nat) : gfree 83 j := by unfold gfree gco; omega
theorem gf82 (j : Nat) : gfree 82 j := by unfold gfree gco; omega
theorem x1_reck143 (h : rkH I P t y s tb T) {J : gJt} {o : Nat} (ho : o < 16) (x3 x4 x5 : Int32) : ∀ (d f x : Nat) (r : gIt), x + d = 2 ^ (lvL I P t s P).length → d < f → cR I P t y s tb T r J → knw I P t r → (∀ i, i < x → r 83 i = nI (gfA I P t s o i)) → ∃ r', p_X1_reckon_143 J (14 + 6 * s) (nI o) x3 x4 x5 f r (nI x) = some (1, r', J) ∧ cR I P t y s tb T r' J ∧ ∀ i, i < 2 ^ (lvL I P t s P).length → r' 83 i = nI (gfA I P t s o i) := by
  intro d
  induction d with
  | zero =>
    intro f x r hx hf hc hk hg
    obtain ⟨f, rfl⟩ : ∃ q, f = q + 1 := ⟨f - 1, by omega⟩
    obtain ⟨-, -, -, ⟨l1, -, -⟩, l4, -⟩ := id hc
    have p4 := pow4 l4
    refine ⟨r, ?_, hc, by rw [← hx]; exact hg⟩
    unfold p_X1_reckon_143
    rw [l1, shl1 (by omega), if_pos (nI_le (by omega) (by omega))]
  | succ d ih =>
    intro f x r hx hf hc hk hg
    obtain ⟨f, rfl⟩ : ∃ q, f = q + 1 := ⟨f - 1, by omega⟩
    obtain ⟨-, -, -, ⟨l1, -, -⟩, l4, -⟩ := id hc
    have p4 := pow4 l4
    obtain ⟨cx, -, -, hs10, hset, -⟩ := id h
    obtain ⟨r2, e2, d2, g2⟩ := x3_divide hk (ao_alv cx.1 x (I := I) (t := t) (s := s)) cx.2.2.2.1 cx.2.2.2.2.1 hs10 hset
    have k2 : gkeep r r2 := fr67_keep g2
    have w83 : gkeep r2 (gu2 r2 83 x (nI (gfA I P t s o x))) := gkeep_w (gf83 x)
    unfold p_X1_reckon_143
    rw [l1, shl1 (by omega), if_neg (nI_ge (by omega) (by omega)), if_neg (nI_ge (by omega) (by omega)), x1_persons cx.1 hc (by omega), gB_v, e2, gB_v, x3_givenTo d2 ho, gB_v, gck_t (gin_nI (by omega) (by omega)), gL_b, nI_clamp (by omega), nI_1]
    refine ih f (x + 1) _ (by omega) (by omega) (cR_w hc (gkeep_tr k2 w83) (fun z h1 h2 => ?_)) ?_ (fun i hi => ?_)
    · rw [gu2_ne (by omega)]
      exact g2 z (by omega) (by omega)
    · obtain ⟨q1, q2, q3, q4⟩ := fr67_knw g2 hk
      exact ⟨gkeep_tr q1 w83, by rw [gu_rd (by decide)]; exact q2, by rw [gu_rd (by decide)]; exact q3, fun q hq => by rw [gu_rd (by decide)]; exact q4 q hq⟩
    · rw [gu_sl]
      by_cases e : i = x
      · rw [if_pos e, e]; rfl
      · rw [if_neg e, g2 83 (by decide) (by decide)]
        exact hg i (by omega)
def rkG (I : gIt) (P : Nat) (t y : Int32) (s tb T : Nat) : Prop := thr I P t T = true ∧ ded I t T = false ∧ gdk I P t y s tb T P
theorem gf78 (j : Nat) : gfree 78 j := by unfold gfree gco; omega
theorem x1_reckon (h : rkH I P t y s tb T) (J : gJt) {o : Nat} (ho : o < 16) : ∃ v r J', p_X1_reckon I J (14 + 6 * s) (nI o) t y = some (v, r, J') ∧ gkeep I r ∧ ((v = 1 ∧ rkG I P t y s tb T ∧ cR I P t y s tb T r J' ∧ ∀ i, i < 2 ^ (lvL I P t s P).length → r 83 i = nI (gfA I P t s o i)) ∨ (v = 0 ∧ ¬ rkG I P t y s tb T)) := by
  obtain ⟨cx, htab, ⟨ht1, ht2⟩, hs10, hset, eT, hT, etb, htb, -⟩ := id h
  have hP := cx.1
  obtain ⟨r1, e1, l1⟩ := x5_learn cx.1 cx.2.1 cx.2.2.2.1 t
  have k1 := lrn_keep l1
  have kn1 := lrn_knw l1
  have bT : ∀ o, o < 16 → (gM (thr I P t) 16 &&& (gM (fun o => thr I P t o && ded I t o) 16 ^^^ (2 ^ 32 - 1))).testBit o = (thr I P t o && !(ded I t o)) := fun o ho => by
    rw [Nat.testBit_and, Nat.testBit_xor, Nat.testBit_two_pow_sub_one, gM_tb16 _ ho, gM_tb16 _ ho]
    have : decide (o < 32) = true := decide_eq_true (by omega)
    rw [this]
    cases thr I P t o <;> cases ded I t o <;> rfl
  have em1 : (-1 : Int32) = nI (2 ^ 32 - 1) := by decide
  have cond : ((((r1 74 1) &&& ((r1 74 2) ^^^ (-1 : Int32))) &&& (gshl (1 : Int32) (nI T))) = 0) ↔ ¬ (thr I P t T && !(ded I t T)) = true := by
    rw [kn1.2.1, kn1.2.2.1, em1, shl1 (by omega), nI_xor, nI_and, nI_and, ← bT T (by omega)]
    generalize gM (thr I P t) 16 &&& (gM (fun o => thr I P t o && ded I t o) 16 ^^^ (2 ^ 32 - 1)) = X
    have hl : X &&& 2 ^ T < 2 ^ 32 := Nat.lt_of_le_of_lt Nat.and_le_right (Nat.pow_lt_pow_right (by omega) (by omega))
    constructor
    · intro q z
      have q2 : nI (X &&& 2 ^ T) = nI 0 := q
      rw [nI_inj hl (by omega)] at q2
      have : (X &&& 2 ^ T).testBit T = true := by rw [Nat.testBit_and, z, Nat.testBit_two_pow]; simp
      rw [q2, Nat.zero_testBit] at this
      exact absurd this (by decide)
    · intro z
      have : X &&& 2 ^ T = 0 := by
        apply Nat.eq_of_testBit_eq
        intro j
        rw [Nat.testBit_and, Nat.testBit_two_pow, Nat.zero_testBit]
        by_cases e : T = j
        · rw [← e]
          have : X.testBit T = false := by cases q : X.testBit T with
            | false => rfl
            | true => exact absurd q z
          rw [this]
          rfl
        · rw [decide_eq_false e, Bool.and_false]
      rw [this]
      rfl
  have e14 : r1 (14 + 6 * s) = I (14 + 6 * s) := gk_set k1 hs10
  unfold p_X1_reckon
  rw [e1, gB_v, e14, eT, gL_b, gB_y _ (x7_has r1 cx.1 (show r1 1 7 = nI P by rw [k1.2.1.2.2.2.2.1]; exact cx.2.1) _) (in_y hT (by omega)), if_neg (by decide)]
  by_cases c1 : (thr I P t T && !(ded I t T)) = true
  · rw [if_neg (fun q => cond.mp q c1)]
    rw [Bool.and_eq_true, Bool.not_eq_true'] at c1
    obtain ⟨a1, a2⟩ := ag_of h c1.1
    obtain ⟨s1, s2⟩ := hs_of h T
    generalize hI12 : gu2 (gu2 r1 78 10 (nI tb)) 78 11 (nI (agN I y T)) = I12
    have k12 : gkeep I I12 := by rw [← hI12]; exact gkeep_tr k1 (gkeep_tr (gkeep_w (gf78 _)) (gkeep_w (gf78 _)))
    have kn12 : knw I P t I12 := by
      rw [← hI12]
      obtain ⟨q1, q2, q3, q4⟩ := kn1
      exact ⟨by rw [hI12]; exact k12, by rw [gu_rd (by decide), gu_rd (by decide)]; exact q2, by rw [gu_rd (by decide), gu_rd (by decide)]; exact q3, fun q hq => by rw [gu_rd (by decide), gu_rd (by decide)]; exact q4 q hq⟩
    have f10 : I12 78 10 = nI tb := by rw [← hI12, gu_sl, if_neg (by decide), gu_sl, if_pos rfl]
    have f11 : I12 78 11 = nI (agN I y T) := by rw [← hI12, gu_sl, if_pos rfl]
    rw [etb, gL_b, gL_b, gck_t (gin_nI (by omega) (by omega)), nI_clamp (by omega), gu_rd (by decide), k1.1 2 (by unfold gco; omega), a1, gL_b, gL_b, hI12, f10, f11, x6_livesAt htb (by omega), gB_v, k12.1 10 (by unfold gco; omega), s1, nI_l (by omega), gL_b, gL_b, gu_sl, if_pos rfl]
    by_cases c0 : 0 < hsN I tb y T
    · have g0 : gdk I P t y s tb T 0 := ⟨Nat.zero_le _, c0⟩
      rw [if_neg (by
        have := lgc_gt (a := lN (hsN I tb y T)) (b := 0)
        rw [lN_toInt (by omega)] at this
        have q := this.mpr (by simp only [Int64.reduceToInt]; omega)
        intro z
        rw [Int32.lt_iff_toInt_lt] at q
        rw [Int32.le_iff_toInt_le] at z
        omega), x5_namedIn cx.1 kn12 hs10 hset, gB_v, kn12.2.2.1, em1, nI_xor, nI_and]
      have hlS : lS I tb y T (lvL I P t s 0) (gu2 I12 78 9 0) (gu2 J 78 12 (lN (hsN I tb y T))) := ⟨by rw [gu_sl, if_pos rfl]; rfl, fun i hi => absurd hi (Nat.not_lt_zero i), by rw [gu_sl, if_pos rfl]; rfl⟩
      obtain ⟨v, r2, J2, e2, f2, hv⟩ := x1_list (r0 := I12) h k12 f10 (Sx := nmS I P t s &&& (gM (fun o => thr I P t o && ded I t o) 16 ^^^ (2 ^ 32 - 1))) (Nat.lt_of_le_of_lt Nat.and_le_left (by have := nmS_lt I P t s; omega)) (fun o ho => by
        unfold lcd
        rw [Nat.testBit_and, Nat.testBit_xor, Nat.testBit_two_pow_sub_one, gM_tb16 _ ho]
        have q32 : decide (o < 32) = true := decide_eq_true (by omega)
        rw [q32]
        cases e : (nmS I P t s).testBit o with
        | false => rfl
        | true => rw [nmS_thr ho e]; cases ded I t o <;> rfl) P gFu 0 (gu2 I12 78 9 0) (gu2 J 78 12 (lN (hsN I tb y T))) (by omega) (by unfold gFu; omega) ⟨fun x h1 _ _ _ => by rw [gu2_ne h1], fun j hj => by rw [gu_sl, if_neg hj]⟩ hlS g0
      have kr2 : gkeep I r2 := gkeep_tr k12 (frC_keep f2)
      have e2' : p_X1_listLiving I12 (gu2 J 78 12 (lN (hsN I tb y T))) (nI (nmS I P t s &&& (gM (fun o => thr I P t o && ded I t o) 16 ^^^ (2 ^ 32 - 1)))) y = some (v, r2, J2) := by unfold p_X1_listLiving; rw [gL_b]; exact e2
      rw [e2', gB_v]
      dsimp only
      rcases hv with ⟨rfl, q1, q2⟩ | ⟨rfl, q2⟩
      · rw [if_neg (by decide)]
        have hc : cR I P t y s tb T r2 J2 := ⟨kr2, by rw [f2.2 10 (by decide)]; exact f10, by rw [f2.2 11 (by decide)]; exact f11, q1, q2⟩
        have hk2 : knw I P t r2 := by
          obtain ⟨z1, z2, z3, z4⟩ := kn12
          exact ⟨kr2, by rw [f2.1 74 (by decide) (by decide) (by decide) (by decide)]; exact z2, by rw [f2.1 74 (by decide) (by decide) (by decide) (by decide)]; exact z3, fun q hq => by rw [f2.1 75 (by decide) (by decide) (by decide) (by decide)]; exact z4 q hq⟩
        have p4 := pow4 q2.1
        obtain ⟨r3, e3, c3, g3⟩ := x1_reck143 h (J := J2) ho t y (nI T) (2 ^ (lvL I P t s P).length) gFu 0 r2 (by omega) (by unfold gFu; omega) hc hk2 (fun i hi => absurd hi (Nat.not_lt_zero i))
        exact ⟨1, r3, J2, e3, c3.1, Or.inl ⟨rfl, ⟨c1.1, c1.2, q2⟩, c3, g3⟩⟩
      · rw [if_pos rfl]
        exact ⟨0, r2, J2, rfl, kr2, Or.inr ⟨rfl, fun z => q2 z.2.2⟩⟩
    · have h0 : hsN I tb y T = 0 := by omega
      rw [h0, if_pos (by decide)]
      refine ⟨0, _, _, rfl, k12, Or.inr ⟨rfl, fun z => ?_⟩⟩
      have := (gdk_m (k := 0) P (by rw [Nat.zero_add]; exact z.2.2)).2
      have e : whN I tb y T (lvL I P t s 0) = hsN I tb y T := rfl
      rw [e] at this
      omega
  · rw [if_pos (cond.mpr c1)]
    refine ⟨0, r1, J, rfl, k1, Or.inr ⟨rfl, fun z => c1 ?_⟩⟩
    rw [z.1, z.2.1]
    rfl
/-! a year; a weight; all together -/
theorem x1_enterYear (h : rkH I P t y s tb T) (hT : thr I P t T = true) {r : gIt} {J : gJt} (hc : cR I P t y s tb T r J) {k : Nat} (hk : k < 400) : ∃ r', p_X1_enterYear r (nI k) = some (Int32.toInt64 (lvs (I 10) tb (agN I y T + k) - lvs (I 10) tb (agN I y T + k + 1)), r') ∧ cR I P t y s tb T r' J ∧ r' 83 = r 83 ∧ ∀ i, i < (lvL I P t s P).length → r' 82 i = lvs (I 10) tb (agN I y (pf (lvL I P t s P) i) + k + 1) := by
  have htb := h.2.2.2.2.2.2.2.2.1
  have hP := h.1.1
  have key : ∀ (d f i : Nat) (r : gIt), i + d = (lvL I P t s P).length → d < f → cR I P t y s tb T r J → (∀ j, j < i → r 82 j = lvs (I 10) tb (agN I y (pf (lvL I P t s P) j) + k + 1)) → ∃ r', p_X1_enterYear_2 (nI k) f r (nI i) = some (Int32.toInt64 (lvs (I 10) tb (agN I y T + k) - lvs (I 10) tb (agN I y T + k + 1)), r') ∧ cR I P t y s tb T r' J ∧ r' 83 = r 83 ∧ ∀ i, i < (lvL I P t s P).length → r' 82 i = lvs (I 10) tb (agN I y (pf (lvL I P t s P) i) + k + 1) := by
    intro d
    induction d with
    | zero =>
      intro f i r hi hf hc h82
      obtain ⟨f, rfl⟩ : ∃ q, f = q + 1 := ⟨f - 1, by omega⟩
      obtain ⟨c1, c2, c3, ⟨l1, -, -⟩, l4, -⟩ := id hc
      have ha := (ag_of h hT).2
      refine ⟨r, ?_, hc, rfl, by rw [← hi]; exact h82⟩
      unfold p_X1_enterYear_2
      rw [l1, if_pos (nI_le (by omega) (by omega)), c2, c3, nI_add, nI_1, x6_livesAt htb (by omega), gB_v, x6_livesAt htb (by omega), gB_v, c1.1 10 (by unfold gco; omega)]
    | succ d ih =>
      intro f i r hi hf hc h82
      obtain ⟨f, rfl⟩ : ∃ q, f = q + 1 := ⟨f - 1, by omega⟩
      obtain ⟨c1, c2, c3, ⟨l1, l2, -⟩, l4, -⟩ := id hc
      have hm := lvL_mem (I := I) (P := P) (t := t) (s := s) P i (by omega)
      have ha := (ag_of h (lcd_thr (by omega) hm.2)).2
      unfold p_X1_enterYear_2
      rw [l1, if_neg (nI_ge (by omega) (by omega)), if_neg (show ¬ (4 : Int32) ≤ nI i from nI_ge (b := 4) (by omega) (by omega)), gck_t (gin_nI (by omega) (by omega)), nI_clamp (by omega), (l2 i (by omega)).1, c2, nI_add, nI_1, x6_livesAt htb (by omega), gB_v, gck_t (gin_nI (by omega) (by omega)), gL_b, c1.1 10 (by unfold gco; omega), nI_1]
      obtain ⟨r', e', c', g', q'⟩ := ih f (i + 1) (gu2 r 82 i (lvs (I 10) tb (agN I y (pf (lvL I P t s P) i) + k + 1))) (by omega) (by omega) (cR_w hc (gkeep_w (gf82 i)) (fun z _ _ => gu2_ne (by omega))) (fun j hj => by
        rw [gu_sl]
        by_cases e : j = i
        · rw [if_pos e, e]
        · rw [if_neg e]; exact h82 j (by omega))
      exact ⟨r', e', c', by rw [g', gu2_ne (by decide)], q'⟩
  unfold p_X1_enterYear
  exact key (lvL I P t s P).length gFu 0 r (by omega) (by have := hc.2.2.2.2.1; unfold gFu; omega) hc (fun j hj => absurd hj (Nat.not_lt_zero j))
theorem x1_weight {r : gIt} {J : gJt} (hc : cR I P t y s tb T r J) {k x : Nat} (hx : x < 2 ^ 32) (h82 : ∀ i, i < (lvL I P t s P).length → r 82 i = lvs (I 10) tb (agN I y (pf (lvL I P t s P) i) + k + 1)) : p_X1_weightOf r (nI x) (Int32.toInt64 (lvs (I 10) tb (agN I y T + k) - lvs (I 10) tb (agN I y T + k + 1))) = some (wtA I P t y s tb T x k) := by
  obtain ⟨c1, c2, c3, ⟨l1, l2, -⟩, l4, -⟩ := id hc
  have key : ∀ (d f i : Nat), i + d = (lvL I P t s P).length → d < f → p_X1_weightOf_6 r (nI x) (Int32.toInt64 (lvs (I 10) tb (agN I y T + k) - lvs (I 10) tb (agN I y T + k + 1))) f (wtB I tb y T (pf (lvL I P t s P)) x k i) (nI i) = some (wtA I P t y s tb T x k) := by
    intro d
    induction d with
    | zero =>
      intro f i hi hf
      obtain ⟨f, rfl⟩ : ∃ q, f = q + 1 := ⟨f - 1, by omega⟩
      unfold p_X1_weightOf_6
      rw [l1, if_pos (nI_le (by omega) (by omega)), show i = (lvL I P t s P).length by omega]
      rfl
    | succ d ih =>
      intro f i hi hf
      obtain ⟨f, rfl⟩ : ∃ q, f = q + 1 := ⟨f - 1, by omega⟩
      have nx := ih f (i + 1) (by omega) (by omega)
      have g4 : gin (nI i) 4 = true := gin_nI (by omega) (by omega)
      unfold wtB at nx
      unfold p_X1_weightOf_6
      rw [l1, if_neg (nI_ge (by omega) (by omega)), if_neg (show ¬ (4 : Int32) ≤ nI i from nI_ge (b := 4) (by omega) (by omega)), ush1 hx (by omega)]
      simp only [gck_t g4, gL_b, nI_1, nI_clamp (show i < 2 ^ 31 by omega), h82 i (show i < (lvL I P t s P).length by omega), (l2 i (show i < (lvL I P t s P).length by omega)).2.1]
      by_cases c : x.testBit i = true
      · rw [if_pos c] at nx
        rw [if_pos (by rw [c]; rfl)]
        exact nx
      · rw [if_neg c] at nx
        rw [if_neg (by rw [if_neg c]; decide)]
        exact nx
  unfold p_X1_weightOf
  exact key (lvL I P t s P).length gFu 0 (by omega) (by unfold gFu; omega)
theorem x1_hopeful (h : rkH I P t y s tb T) (hT : thr I P t T = true) {J : gJt} {o : Nat} {r : gIt} (hc : cR I P t y s tb T r J) (hg : ∀ i, i < 2 ^ (lvL I P t s P).length → r 83 i = nI (gfA I P t s o i)) (hgb : ∀ i, gfA I P t s o i ≤ 100000) : ∃ r', p_X1_hopeful r = some (hopV I P t y s tb T o, r') ∧ gkeep I r' := by
  have p4 := pow4 hc.2.2.2.2.1
  have inner : ∀ (K4 : gIt → Int64 → Int32 → Option (Int64 × gIt)) (k : Nat) (r : gIt) (y1 : Int64), cR I P t y s tb T r J → (∀ i, i < 2 ^ (lvL I P t s P).length → r 83 i = nI (gfA I P t s o i)) → (∀ i, i < (lvL I P t s P).length → r 82 i = lvs (I 10) tb (agN I y (pf (lvL I P t s P) i) + k + 1)) → ∀ (d f x : Nat), x + d = 2 ^ (lvL I P t s P).length → d < f → p_X1_hopeful_20 K4 r (nI k) (Int32.toInt64 (lvs (I 10) tb (agN I y T + k) - lvs (I 10) tb (agN I y T + k + 1))) f (y1 + sm (fun x => if 0 < gfA I P t s o x then wtA I P t y s tb T x k else 0) x) (nI x) = K4 r (y1 + sm (fun x => if 0 < gfA I P t s o x then wtA I P t y s tb T x k else 0) (2 ^ (lvL I P t s P).length)) (nI (k + 1)) := by
    intro K4 k r y1 hc hg h82 d
    obtain ⟨-, -, -, ⟨l1, -, -⟩, l4, -⟩ := id hc
    induction d with
    | zero =>
      intro f x hx hf
      obtain ⟨f, rfl⟩ : ∃ q, f = q + 1 := ⟨f - 1, by omega⟩
      unfold p_X1_hopeful_20
      rw [l1, shl1 (by omega), if_pos (nI_le (by omega) (by omega)), nI_1, show x = 2 ^ (lvL I P t s P).length by omega]
    | succ d ih =>
      intro f x hx hf
      obtain ⟨f, rfl⟩ : ∃ q, f = q + 1 := ⟨f - 1, by omega⟩
      have nx := ih f (x + 1) (by omega) (by omega)
      have hb := hgb x
      unfold p_X1_hopeful_20
      rw [l1, shl1 (by omega), if_neg (nI_ge (by omega) (by omega)), if_neg (nI_ge (by omega) (by omega)), gck_t (gin_nI (by omega) (by omega)), nI_clamp (by omega), hg x (by omega), x1_weight hc (by omega) h82, gB_v, gL_b, gL_b, nI_1]
      rw [sm_s, ← Int64.add_assoc] at nx
      by_cases c : 0 < gfA I P t s o x
      · rw [if_pos c] at nx
        rw [if_neg (nI_nle c (by omega))]
        exact nx
      · rw [if_neg c] at nx
        rw [show gfA I P t s o x = 0 by omega, if_pos (by decide)]
        exact nx
  have outer : ∀ (d f k : Nat) (r : gIt), k + d = 110 → d < f → cR I P t y s tb T r J → (∀ i, i < 2 ^ (lvL I P t s P).length → r 83 i = nI (gfA I P t s o i)) → ∃ r', p_X1_hopeful_4 f r (sm (fun k => sm (fun x => if 0 < gfA I P t s o x then wtA I P t y s tb T x k else 0) (2 ^ (lvL I P t s P).length)) k) (nI k) = some (hopV I P t y s tb T o, r') ∧ gkeep I r' := by
    intro d
    induction d with
    | zero =>
      intro f k r hk hf hc hg
      obtain ⟨f, rfl⟩ : ∃ q, f = q + 1 := ⟨f - 1, by omega⟩
      have : k = 110 := by omega
      subst this
      refine ⟨r, ?_, hc.1⟩
      unfold p_X1_hopeful_4
      rw [if_pos (show (110 : Int32) ≤ nI 110 by decide)]
      rfl
    | succ d ih =>
      intro f k r hk hf hc hg
      obtain ⟨f, rfl⟩ : ∃ q, f = q + 1 := ⟨f - 1, by omega⟩
      obtain ⟨r2, e2, c2, g2, q2⟩ := x1_enterYear h hT hc (k := k) (by omega)
      unfold p_X1_hopeful_4
      rw [if_neg (show ¬ (110 : Int32) ≤ nI k from nI_ge (b := 110) (by omega) (by omega)), e2, gB_v]
      dsimp only
      have := inner (fun I y1 x3 => p_X1_hopeful_4 f I y1 x3) k r2 (sm (fun k => sm (fun x => if 0 < gfA I P t s o x then wtA I P t y s tb T x k else 0) (2 ^ (lvL I P t s P).length)) k) c2 (by rw [g2]; exact hg) q2 (2 ^ (lvL I P t s P).length) gFu 0 (by omega) (by unfold gFu; omega)
      rw [show sm (fun x => if 0 < gfA I P t s o x then wtA I P t y s tb T x k else 0) 0 = 0 from rfl, Int64.add_zero] at this
      rw [show p_X1_hopeful_20 (fun I y1 x3 => p_X1_hopeful_4 f I y1 x3) r2 (nI k) (Int32.toInt64 (lvs (I 10) tb (agN I y T + k) - lvs (I 10) tb (agN I y T + k + 1))) gFu (sm (fun k => sm (fun x => if 0 < gfA I P t s o x then wtA I P t y s tb T x k else 0) (2 ^ (lvL I P t s P).length)) k) 0 = _ from this]
      exact ih f (k + 1) r2 (by omega) (by omega) c2 (by rw [g2]; exact hg)
  unfold p_X1_hopeful
  exact outer 110 gFu 0 r (by omega) (by unfold gFu; omega) hc hg
theorem x1_worthNow (h : rkH I P t y s tb T) (hT : thr I P t T = true) {J : gJt} {o i : Nat} (hi : i ≤ 20) (ei : I 9 1 = nI i) {r : gIt} (hc : cR I P t y s tb T r J) (hg : ∀ i, i < 2 ^ (lvL I P t s P).length → r 83 i = nI (gfA I P t s o i)) : ∃ r', p_X1_worthNow r J = some (worV I P t y s tb T o i 110, r') ∧ gkeep I r' := by
  have p4 := pow4 hc.2.2.2.2.1
  have hwl := whN_lt h hc.2.2.2.2.1
  have hw0 := hc.2.2.2.2.2
  have hJ : J 78 12 = lN (whN I tb y T (lvL I P t s P)) := hc.2.2.2.1.2.2
  have hJ0 : ¬ lN (whN I tb y T (lvL I P t s P)) = 0 := fun q => by have := (pk_lEQ (b := 0) (by omega) (by omega)).mp q; omega
  have inner : ∀ (K22 : gIt → Int64 → Int64 → Int32 → Option (Int64 × gIt)) (k : Nat) (r : gIt) (y1 : Int64), cR I P t y s tb T r J → (∀ i, i < 2 ^ (lvL I P t s P).length → r 83 i = nI (gfA I P t s o i)) → (∀ i, i < (lvL I P t s P).length → r 82 i = lvs (I 10) tb (agN I y (pf (lvL I P t s P) i) + k + 1)) → ∀ (d f x : Nat), x + d = 2 ^ (lvL I P t s P).length → d < f → p_X1_worthNow_43 K22 r J y1 (lN (dsc i k)) (nI k) (Int32.toInt64 (lvs (I 10) tb (agN I y T + k) - lvs (I 10) tb (agN I y T + k + 1))) f (sm (fun x => wtA I P t y s tb T x k * Int32.toInt64 (nI (gfA I P t s o x))) x) (nI x) = K22 r (y1 + wgV I P t y s tb T o k / lN (whN I tb y T (lvL I P t s P)) * lN (dsc i (k + 1)) / 1000000) (lN (dsc i (k + 1))) (nI (k + 1)) := by
    intro K22 k r y1 hc hg h82 d
    obtain ⟨c1, -, -, ⟨l1, -, -⟩, l4, -⟩ := id hc
    induction d with
    | zero =>
      intro f x hx hf
      obtain ⟨f, rfl⟩ : ∃ q, f = q + 1 := ⟨f - 1, by omega⟩
      unfold p_X1_worthNow_43
      rw [l1, shl1 (by omega), if_pos (nI_le (by omega) (by omega)), x6_discounted hi (show r 9 1 = nI i by rw [c1.2.1.2.2.2.2.2.2.1]; exact ei) (dsc_le i k), gB_v, hJ, gck_t (decide_eq_true hJ0), gL_b, nI_1, show x = 2 ^ (lvL I P t s P).length by omega]
      rfl
    | succ d ih =>
      intro f x hx hf
      obtain ⟨f, rfl⟩ : ∃ q, f = q + 1 := ⟨f - 1, by omega⟩
      unfold p_X1_worthNow_43
      rw [l1, shl1 (by omega), if_neg (nI_ge (by omega) (by omega)), if_neg (nI_ge (by omega) (by omega)), x1_weight hc (by omega) h82, gB_v, gck_t (gin_nI (by omega) (by omega)), nI_clamp (by omega), hg x (by omega), gL_b, nI_1]
      exact ih f (x + 1) (by omega) (by omega)
  have outer : ∀ (d f k : Nat) (r : gIt), k + d = 110 → d < f → cR I P t y s tb T r J → (∀ i, i < 2 ^ (lvL I P t s P).length → r 83 i = nI (gfA I P t s o i)) → ∃ r', p_X1_worthNow_22 J f r (worV I P t y s tb T o i k) (lN (dsc i k)) (nI k) = some (worV I P t y s tb T o i 110, r') ∧ gkeep I r' := by
    intro d
    induction d with
    | zero =>
      intro f k r hk hf hc hg
      obtain ⟨f, rfl⟩ : ∃ q, f = q + 1 := ⟨f - 1, by omega⟩
      have : k = 110 := by omega
      subst this
      refine ⟨r, ?_, hc.1⟩
      unfold p_X1_worthNow_22
      rw [if_pos (show (110 : Int32) ≤ nI 110 by decide)]
    | succ d ih =>
      intro f k r hk hf hc hg
      obtain ⟨f, rfl⟩ : ∃ q, f = q + 1 := ⟨f - 1, by omega⟩
      obtain ⟨r2, e2, c2, g2, q2⟩ := x1_enterYear h hT hc (k := k) (by omega)
      unfold p_X1_worthNow_22
      rw [if_neg (show ¬ (110 : Int32) ≤ nI k from nI_ge (b := 110) (by omega) (by omega)), e2, gB_v]
      dsimp only
      have := inner (fun I y1 y3 x5 => p_X1_worthNow_22 J f I y1 y3 x5) k r2 (worV I P t y s tb T o i k) c2 (by rw [g2]; exact hg) q2 (2 ^ (lvL I P t s P).length) gFu 0 (by omega) (by unfold gFu; omega)
      rw [show p_X1_worthNow_43 (fun I y1 y3 x5 => p_X1_worthNow_22 J f I y1 y3 x5) r2 J (worV I P t y s tb T o i k) (lN (dsc i k)) (nI k) (Int32.toInt64 (lvs (I 10) tb (agN I y T + k) - lvs (I 10) tb (agN I y T + k + 1))) gFu 0 0 = _ from this]
      exact ih f (k + 1) r2 (by omega) (by omega) c2 (by rw [g2]; exact hg)
  unfold p_X1_worthNow
  rw [hJ, if_pos (by rw [lgc_gt, pk_lT (by omega)]; simp only [Int64.reduceToInt]; omega)]
  exact outer 110 gFu 0 r (by omega) (by unfold gFu; omega) hc hg
end Ck
