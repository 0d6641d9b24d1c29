/-! ===== holds ===== -/
def sOf (I : gIt) (i : Nat) : Nat := (I 86 i).toNatClampNeg
def tOf (I : gIt) (s : Nat) : Nat := (I (14 + 6 * s) 6).toNatClampNeg
def slr (I : gIt) (i : Nat) : Nat := (I 85 i).toNatClampNeg
def hld (I : gIt) (b : Int32) (i : Nat) : Bool := decide (I 88 i = b ∧ I 94 i = -1) && !(ded I (I 0 14) (tOf I (sOf I i)))
def ptsH (I : gIt) (b : Int32) : Nat → Nat := sN (fun k => if hld I b k then (I 87 k).toNatClampNeg else 0)
def hdH (I : gIt) (P ns nS : Nat) : Prop := ctx I P ∧ ns ≤ 10 ∧ nS ≤ 40 ∧ I 84 10 = nI nS ∧ I 149 5 = nI nS ∧ (∀ s, s < ns → iSet1 I P s) ∧ (∀ i, i < nS → iSal1 I P ns i)
section Hd
variable {I : gIt} {P ns nS : Nat}
theorem s_of (h : hdH I P ns nS) {i : Nat} (hi : i < nS) : I 86 i = nI (sOf I i) ∧ sOf I i < ns := by
  obtain ⟨-, hn, -, -, -, -, hs⟩ := h
  obtain ⟨-, -, -, -, -, -, -, -, -, -, s, h1, h2, -⟩ := hs i hi
  unfold sOf
  rw [h2, nI_clamp (by omega)]
  exact ⟨rfl, h1⟩
theorem t_of (h : hdH I P ns nS) {s : Nat} (hs : s < ns) : I (14 + 6 * s) 6 = nI (tOf I s) ∧ tOf I s < P := by
  obtain ⟨c, -, -, -, -, hset, -⟩ := h
  obtain ⟨-, ⟨-, T, hT, eT⟩, -⟩ := hset s hs
  have := c.1
  unfold tOf
  rw [eT, nI_clamp (by omega)]
  exact ⟨rfl, hT⟩
theorem l_of (h : hdH I P ns nS) {i : Nat} (hi : i < nS) : I 85 i = nI (slr I i) ∧ slr I i < P := by
  obtain ⟨c, -, -, -, -, -, hs⟩ := h
  obtain ⟨-, ⟨k, hk, ek⟩, -⟩ := hs i hi
  have := c.1
  unfold slr
  rw [ek, nI_clamp (by omega)]
  exact ⟨rfl, hk⟩
theorem thr_now (h : hdH I P ns nS) {o : Nat} (ho : o < P) : thr I P (I 0 14) o = true := by
  unfold thr
  rw [decide_eq_true_eq]
  exact ⟨ho, (h.1.2.2.2.1 o ho).2.1.2.2⟩
theorem son_now (h : hdH I P ns nS) (x : Int32) : sOn I nS (I 0 14) x := fun i hi _ => by
  obtain ⟨-, -, -, -, -, -, -, s8, -, s10, -⟩ := h.2.2.2.2.2.2 i hi
  refine ⟨s8.2, ?_⟩
  rcases s10 with q | q
  · exact Or.inl q
  · exact Or.inr q.2
theorem x4_hasFallen (h : hdH I P ns nS) {r : gIt} (hk : knw I P (I 0 14) r) {s : Nat} (hs : s < ns) : p_X4_hasFallen r (14 + 6 * s) = some (if ded I (I 0 14) (tOf I s) then 1 else 0) := by
  obtain ⟨e, hT⟩ := t_of h hs
  have hP := h.1.1
  have hn := h.2.1
  unfold p_X4_hasFallen
  rw [hk.2.2.1, gk_set hk.1 (by omega), e, ush1 (by have := gM_16 (fun o => thr I P (I 0 14) o && ded I (I 0 14) o); omega) (by omega), gM_tb16 _ (by omega), thr_now h hT, Bool.true_and]
  cases ded I (I 0 14) (tOf I s) <;> rfl
theorem knw_w {r : gIt} {t : Int32} (hk : knw I P t r) {a j : Nat} {v : Int32} (hf : gfree a j) (h1 : a ≠ 74) (h2 : a ≠ 75) : knw I P t (gu2 r a j v) := by
  obtain ⟨q1, q2, q3, q4⟩ := hk
  exact ⟨gkeep_tr q1 (gkeep_w hf), by rw [gu_rd (Ne.symm h1)]; exact q2, by rw [gu_rd (Ne.symm h1)]; exact q3, fun q hq => by rw [gu_rd (Ne.symm h2)]; exact q4 q hq⟩
theorem gf101 (j : Nat) : gfree 101 j := by unfold gfree gco; omega
theorem gf102 (j : Nat) : gfree 102 j := by unfold gfree gco; omega
def inS (I : gIt) (b : Int32) (k m : Nat) : Prop := m < 1024 ∧ ∀ s, s < 10 → (m.testBit s = true ↔ ∃ i, i < k ∧ hld I b i = true ∧ sOf I i = s)
def gS (I : gIt) (nS : Nat) (b : Int32) (k : Nat) (r : gIt) : Prop := r 101 4 = nI (gCt (hld I b) k) ∧ r 101 5 = nI (ptsH I b k) ∧ (∃ m, r 101 6 = nI m ∧ inS I b k m) ∧ ∀ i, i < k → r 102 i = if hld I b i then nI (rch I nS (I 0 14) i) else -1
theorem inS_0 {b : Int32} {k m : Nat} (h : inS I b k m) (hk : ¬ hld I b k = true) : inS I b (k + 1) m := by
  refine ⟨h.1, fun s hs => ?_⟩
  rw [h.2 s hs]
  constructor
  · rintro ⟨i, hi, z⟩; exact ⟨i, by omega, z⟩
  · rintro ⟨i, hi, z1, z2⟩
    by_cases e : i = k
    · rw [e] at z1; exact absurd z1 hk
    · exact ⟨i, by omega, z1, z2⟩
theorem inS_1 {b : Int32} {k m : Nat} (h : inS I b k m) (hk : hld I b k = true) (hs10 : sOf I k < 10) : inS I b (k + 1) (m ||| 2 ^ sOf I k) := by
  refine ⟨Nat.or_lt_two_pow (n := 10) h.1 (Nat.pow_lt_pow_right (by omega) hs10), fun s hs => ?_⟩
  rw [tb_set, h.2 s hs]
  constructor
  · rintro (⟨i, hi, z⟩ | z)
    · exact ⟨i, by omega, z⟩
    · exact ⟨k, by omega, hk, z.symm⟩
  · rintro ⟨i, hi, z1, z2⟩
    by_cases e : i = k
    · rw [e] at z2; exact Or.inr z2.symm
    · exact Or.inl ⟨i, by omega, z1, z2⟩
theorem x4_gather18 (h : hdH I P ns nS) (b : Int32) : ∀ (d f k : Nat) (r : gIt), k + d = nS → d < f → knw I P (I 0 14) r → gS I nS b k r → ∃ r', p_X4_gather_18 b (nI ns) (I 0 14) f r (nI k) = some r' ∧ knw I P (I 0 14) r' ∧ gS I nS b nS r' := by
  intro d
  obtain ⟨cx, hn, hnS, h84, h5, hset, hsal⟩ := id h
  obtain ⟨sp, se⟩ := sal_p hsal
  induction d with
  | zero =>
    intro f k r hk hf hkn hg
    obtain ⟨f, rfl⟩ : ∃ q, f = q + 1 := ⟨f - 1, by omega⟩
    have : k = nS := by omega
    subst this
    refine ⟨r, ?_, hkn, hg⟩
    unfold p_X4_gather_18
    rw [hkn.1.2.1.2.2.2.2.2.2.2.2.1, h84, if_pos (nI_le (by omega) (by omega))]
  | succ d ih =>
    intro f k r hk hf hkn hg
    obtain ⟨f, rfl⟩ : ∃ q, f = q + 1 := ⟨f - 1, by omega⟩
    obtain ⟨es, hsn⟩ := s_of h (i := k) (by omega)
    obtain ⟨g1, g2, ⟨m, g3, g4⟩, g5⟩ := id hg
    have g40 : gin (nI k) 40 = true := gin_nI (by omega) (by omega)
    have kn9 : knw I P (I 0 14) (gu2 r 102 k (-1)) := knw_w hkn (gf102 k) (by decide) (by decide)
    obtain ⟨p, ep, hp⟩ := sp k (by omega)
    -- where the sale isn't held
    have no : ¬ hld I b k = true → ∃ r', p_X4_gather_18 b (nI ns) (I 0 14) f (gu2 r 102 k (-1)) (nI (k + 1)) = some r' ∧ knw I P (I 0 14) r' ∧ gS I nS b nS r' := fun hh => by
      refine ih f (k + 1) _ (by omega) (by omega) kn9 ⟨?_, ?_, ⟨m, ?_, inS_0 g4 hh⟩, fun i hi => ?_⟩
      · rw [gu_rd (by decide), g1]
        show _ = nI (gCt (hld I b) k + if hld I b k then 1 else 0)
        rw [if_neg hh, Nat.add_zero]
      · rw [gu_rd (by decide), g2]
        show _ = nI (ptsH I b k + if hld I b k then _ else 0)
        rw [if_neg hh, Nat.add_zero]
      · rw [gu_rd (by decide)]; exact g3
      · rw [gu_sl]
        by_cases e : i = k
        · rw [if_pos e, e, if_neg hh]
        · rw [if_neg e]; exact g5 i (by omega)
    unfold p_X4_gather_18
    rw [hkn.1.2.1.2.2.2.2.2.2.2.2.1, h84, if_neg (nI_ge (by omega) (by omega)), if_neg (show ¬ (40 : Int32) ≤ nI k from nI_ge (b := 40) (by omega) (by omega)), gck_t g40, nI_clamp (by omega), hkn.1.1 86 (by unfold gco; omega), es, gL_b, gck_t g40, gL_b, gck_t g40, kn9.1.1 88 (by unfold gco; omega), nI_1]
    by_cases c1 : I 88 k = b
    · rw [if_pos c1, gck_t g40, kn9.1.1 94 (by unfold gco; omega)]
      by_cases c2 : I 94 k = -1
      · rw [if_pos c2, if_neg (nI_pos (by omega)), if_neg (nI_ge (by omega) (by omega)), if_neg (nI_ge (by omega) (by omega)), gck_t (gin_nI (by omega) (by omega)), nI_clamp (show sOf I k < 2 ^ 31 by omega), x4_hasFallen h kn9 hsn, gB_v]
        by_cases c3 : ded I (I 0 14) (tOf I (sOf I k)) = true
        · rw [if_pos c3, if_neg (by decide)]
          exact no (by unfold hld; rw [c3]; simp)
        · have hh : hld I b k = true := by
            unfold hld
            rw [decide_eq_true ⟨c1, c2⟩]
            cases e : ded I (I 0 14) (tOf I (sOf I k)) with
            | false => rfl
            | true => exact absurd e c3
          have r84 : gu2 r 102 k (-1) 84 10 = nI nS := by rw [kn9.1.2.1.2.2.2.2.2.2.2.2.1]; exact h84
          rw [if_neg c3, if_pos rfl, x8_partsReached hnS r84 (p1000_k kn9.1 sp) (I 0 14) (by omega), gB_v, rch_k kn9.1, gck_t g40]
          simp only [gL_b, gck_t g40, nI_clamp (show k < 2 ^ 31 by omega), gu_rd, gu_sl, ne_eq, Nat.reduceEqDiff, not_false_eq_true, if_true, if_false, g1, g2, g3, nI_1, hkn.1.1 87 (show gco 87 by unfold gco; omega), ep, nI_add, shl1 (show sOf I k < 32 by omega), nI_or]
          refine ih f (k + 1) _ (by omega) (by omega) (knw_w (knw_w (knw_w (knw_w kn9 (gf102 k) (by decide) (by decide)) (gf101 _) (by decide) (by decide)) (gf101 _) (by decide) (by decide)) (gf101 _) (by decide) (by decide)) ⟨?_, ?_, ⟨m ||| 2 ^ sOf I k, ?_, inS_1 g4 hh (by omega)⟩, fun i hi => ?_⟩
          · simp only [gu_sl, gu_rd, ne_eq, Nat.reduceEqDiff, not_false_eq_true, if_true, if_false]
            show _ = nI (gCt (hld I b) k + if hld I b k then 1 else 0)
            rw [if_pos hh]
          · simp only [gu_sl, gu_rd, ne_eq, Nat.reduceEqDiff, not_false_eq_true, if_true, if_false]
            show _ = nI (ptsH I b k + if hld I b k then _ else 0)
            rw [if_pos hh, ep, nI_clamp (by omega)]
          · rw [gu_sl, if_pos rfl]
          · rw [gu_rd (by decide), gu_rd (by decide), gu_rd (by decide), gu_sl]
            by_cases e : i = k
            · rw [if_pos e, e, if_pos hh]
            · rw [if_neg e, gu_sl, if_neg e]; exact g5 i (by omega)
      · rw [if_neg c2]
        exact no (by unfold hld; rw [decide_eq_false (fun z => c2 z.2)]; simp)
    · rw [if_neg c1]
      exact no (by unfold hld; rw [decide_eq_false (fun z => c1 z.1)]; simp)
theorem x4_gather (h : hdH I P ns nS) (b : Int32) {r : gIt} (hk : knw I P (I 0 14) r) : ∃ r', p_X4_gather r b (nI ns) (I 0 14) = some r' ∧ knw I P (I 0 14) r' ∧ gS I nS b nS r' := by
  unfold p_X4_gather
  rw [gL_b, gL_b, gL_b]
  refine x4_gather18 h b nS gFu 0 _ (by omega) (by have := h.2.2.1; unfold gFu; omega) (knw_w (knw_w (knw_w hk (gf101 _) (by decide) (by decide)) (gf101 _) (by decide) (by decide)) (gf101 _) (by decide) (by decide)) ⟨?_, ?_, ⟨0, ?_, by decide, fun s hs => ?_⟩, fun i hi => absurd hi (Nat.not_lt_zero i)⟩
  · rw [gu_sl, if_neg (by decide), gu_sl, if_neg (by decide), gu_sl, if_pos rfl]; rfl
  · rw [gu_sl, if_neg (by decide), gu_sl, if_pos rfl]; rfl
  · rw [gu_sl, if_pos rfl]; rfl
  · rw [Nat.zero_testBit]
    constructor
    · intro q; exact absurd q (by decide)
    · rintro ⟨i, hi, -⟩; omega
/-- who is in doubt -/
def dbt (I : gIt) (P nS : Nat) (b : Int32) (o : Nat) : Prop := (∃ i, i < nS ∧ hld I b i = true ∧ (nmS I P (I 0 14) (sOf I i)).testBit o = true) ∧ ¬ ded I (I 0 14) o = true ∧ ¬ ∃ i, i < nS ∧ hld I b i = true ∧ tOf I (sOf I i) = o
def dbS (I : gIt) (P nS : Nat) (b : Int32) (D : Nat) : Prop := D < 65536 ∧ ∀ o, o < 16 → (D.testBit o = true ↔ dbt I P nS b o)
theorem dbS_u {b : Int32} {D D' : Nat} (h : dbS I P nS b D) (h' : dbS I P nS b D') : D = D' := tb_ext (n := 16) h.1 h'.1 (fun k hk => by rw [Bool.eq_iff_iff, h.2 k hk, h'.2 k hk])
theorem tb_m1 {D o : Nat} (ho : o < 16) : (D ^^^ (2 ^ 32 - 1)).testBit o = !(D.testBit o) := by
  rw [Nat.testBit_xor, Nat.testBit_two_pow_sub_one, decide_eq_true (by omega)]
  cases D.testBit o <;> rfl
theorem em1 : (-1 : Int32) = nI (2 ^ 32 - 1) := by decide
theorem x4_doubt (h : hdH I P ns nS) (b : Int32) {r : gIt} (hk : knw I P (I 0 14) r) (hg : gS I nS b nS r) : ∃ D, dbS I P nS b D ∧ p_X4_doubtfulOnes r (nI ns) = some (nI D) := by
  obtain ⟨cx, hn, hnS, h84, h5, hset, hsal⟩ := id h
  obtain ⟨-, -, ⟨m, g3, g4⟩, -⟩ := id hg
  have hP := cx.1
  have key : ∀ (d f k N T : Nat), k + d = ns → d < f → N < 65536 → T < 65536 → (∀ o, o < 16 → (N.testBit o = true ↔ ∃ s, s < k ∧ m.testBit s = true ∧ (nmS I P (I 0 14) s).testBit o = true)) → (∀ o, o < 16 → (T.testBit o = true ↔ ∃ s, s < k ∧ m.testBit s = true ∧ tOf I s = o)) → ∃ D, dbS I P nS b D ∧ p_X4_doubtfulOnes_8 r (nI ns) f (nI N) (nI T) (nI k) = some (nI D) := by
    intro d
    induction d with
    | zero =>
      intro f k N T hk' hf hN hT bN bT
      obtain ⟨f, rfl⟩ : ∃ q, f = q + 1 := ⟨f - 1, by omega⟩
      have : k = ns := by omega
      subst this
      refine ⟨(N &&& (gM (fun o => thr I P (I 0 14) o && ded I (I 0 14) o) 16 ^^^ (2 ^ 32 - 1))) &&& (T ^^^ (2 ^ 32 - 1)), ⟨lt_and (lt_and hN), fun o ho => ?_⟩, ?_⟩
      · rw [Nat.testBit_and, Nat.testBit_and, tb_m1 ho, tb_m1 ho, gM_tb16 _ ho, Bool.and_eq_true, Bool.and_eq_true, Bool.not_eq_true', Bool.not_eq_true', bN o ho]
        unfold dbt
        constructor
        · rintro ⟨⟨⟨s, hs, s1, s2⟩, q2⟩, q3⟩
          have ht := nmS_thr ho s2
          obtain ⟨i, hi, i1, i2⟩ := (g4.2 s (by omega)).mp s1
          refine ⟨⟨i, hi, i1, by rw [i2]; exact s2⟩, ?_, ?_⟩
          · rw [ht, Bool.true_and] at q2
            rw [q2]
            decide
          · rintro ⟨i, hi, i1, i2⟩
            have : T.testBit o = true := (bT o ho).mpr ⟨sOf I i, (s_of h hi).2, (g4.2 _ (by have := (s_of h hi).2; omega)).mpr ⟨i, hi, i1, rfl⟩, i2⟩
            rw [q3] at this
            exact absurd this (by decide)
        · rintro ⟨⟨i, hi, i1, i2⟩, q2, q3⟩
          have hsi := (s_of h hi).2
          refine ⟨⟨⟨sOf I i, hsi, (g4.2 _ (by omega)).mpr ⟨i, hi, i1, rfl⟩, i2⟩, ?_⟩, ?_⟩
          · cases e : ded I (I 0 14) o with
            | false => rw [Bool.and_false]
            | true => exact absurd e q2
          · cases e : T.testBit o with
            | false => rfl
            | true =>
              obtain ⟨s, hs, s1, s2⟩ := (bT o ho).mp e
              obtain ⟨j, hj, j1, j2⟩ := (g4.2 s (by omega)).mp s1
              exact absurd ⟨j, hj, j1, by rw [j2]; exact s2⟩ q3
      · unfold p_X4_doubtfulOnes_8
        rw [if_pos (nI_le (by omega) (by omega)), hk.2.2.1, em1, nI_xor, nI_and, nI_xor, nI_and]
    | succ d ih =>
      intro f k N T hk' hf hN hT bN bT
      obtain ⟨f, rfl⟩ : ∃ q, f = q + 1 := ⟨f - 1, by omega⟩
      obtain ⟨eT, hT'⟩ := t_of h (s := k) (by omega)
      unfold p_X4_doubtfulOnes_8
      rw [if_neg (nI_ge (by omega) (by omega)), if_neg (nI_ge (by omega) (by omega)), gck_t (gin_nI (by omega) (by omega)), g3, ush1 (by have := g4.1; omega) (by omega), nI_clamp (by omega), x5_namedIn cx.1 hk (by omega) (hset k (by omega)), gB_v, gk_set hk.1 (by omega), eT, shl1 (by omega), nI_or, nI_or, gL_b, gL_b, nI_1]
      by_cases c : m.testBit k = true
      · rw [if_pos (by rw [c]; rfl)]
        refine ih f (k + 1) _ _ (by omega) (by omega) (or_lt hN (nmS_lt I P (I 0 14) k)) (or_lt16 hT (by omega)) (fun o ho => ?_) (fun o ho => ?_)
        · rw [tb_or, bN o ho]
          constructor
          · rintro (⟨s, hs, z⟩ | z)
            · exact ⟨s, by omega, z⟩
            · exact ⟨k, by omega, c, z⟩
          · rintro ⟨s, hs, z1, z2⟩
            by_cases e : s = k
            · rw [e] at z2; exact Or.inr z2
            · exact Or.inl ⟨s, by omega, z1, z2⟩
        · rw [tb_set, bT o ho]
          constructor
          · rintro (⟨s, hs, z⟩ | z)
            · exact ⟨s, by omega, z⟩
            · exact ⟨k, by omega, c, z.symm⟩
          · rintro ⟨s, hs, z1, z2⟩
            by_cases e : s = k
            · rw [e] at z2; exact Or.inr z2.symm
            · exact Or.inl ⟨s, by omega, z1, z2⟩
      · rw [if_neg (by rw [if_neg c]; decide)]
        refine ih f (k + 1) N T (by omega) (by omega) hN hT (fun o ho => ?_) (fun o ho => ?_)
        · rw [bN o ho]
          constructor
          · rintro ⟨s, hs, z⟩; exact ⟨s, by omega, z⟩
          · rintro ⟨s, hs, z1, z2⟩
            by_cases e : s = k
            · rw [e] at z1; exact absurd z1 c
            · exact ⟨s, by omega, z1, z2⟩
        · rw [bT o ho]
          constructor
          · rintro ⟨s, hs, z⟩; exact ⟨s, by omega, z⟩
          · rintro ⟨s, hs, z1, z2⟩
            by_cases e : s = k
            · rw [e] at z1; exact absurd z1 c
            · exact ⟨s, by omega, z1, z2⟩
  unfold p_X4_doubtfulOnes
  refine key ns gFu 0 0 0 (by omega) (by unfold gFu; omega) (by decide) (by decide) (fun o ho => ?_) (fun o ho => ?_)
  · rw [Nat.zero_testBit]
    constructor
    · intro q; exact absurd q (by decide)
    · rintro ⟨s, hs, -⟩; omega
  · rw [Nat.zero_testBit]
    constructor
    · intro q; exact absurd q (by decide)
    · rintro ⟨s, hs, -⟩; omega
/-- what sale i brings, A being alive -/
def trm (I : gIt) (P nS : Nat) (b : Int32) (A i : Nat) : Nat := if hld I b i then (fallOf I P (A &&& nmS I P (I 0 14) (sOf I i)) (sOf I i)).1 (slr I i) * rch I nS (I 0 14) i / 1000 else 0
def brg (I : gIt) (P nS : Nat) (b : Int32) (A : Nat) : Nat := sN (fun i => if i < nS then trm I P nS b A i else 0) nS
theorem fall_le (h : hdH I P ns nS) {s : Nat} (hs : s < ns) (A o : Nat) : (fallOf I P A s).1 o ≤ 100000 := by
  obtain ⟨-, -, -, -, -, hset, -⟩ := h
  obtain ⟨⟨-, f1, f2⟩, -⟩ := hset s hs
  obtain ⟨F, -, eF, tF⟩ := i_of (x := I (14 + 6 * s) 5) (by omega)
  have := fallOf_bd I P A s o
  rw [eF, nI_clamp (by omega)] at this
  omega
theorem trm_le (h : hdH I P ns nS) (b : Int32) (A : Nat) {i : Nat} (hi : i < nS) : trm I P nS b A i ≤ 100000 := by
  unfold trm
  by_cases c : hld I b i = true
  · rw [if_pos c]
    have h1 := fall_le h (s_of h hi).2 (A &&& nmS I P (I 0 14) (sOf I i)) (slr I i)
    have h2 := rch_le I nS (I 0 14) i
    have : (fallOf I P (A &&& nmS I P (I 0 14) (sOf I i)) (sOf I i)).1 (slr I i) * rch I nS (I 0 14) i ≤ 100000 * 1000 := Nat.mul_le_mul h1 h2
    omega
  · rw [if_neg c]; omega
theorem brg_le (h : hdH I P ns nS) (b : Int32) (A : Nat) : ∀ k, sN (fun i => if i < nS then trm I P nS b A i else 0) k ≤ 100000 * k := sN_le (fun i => by
  by_cases c : i < nS
  · rw [if_pos c]; exact trm_le h b A c
  · rw [if_neg c]; omega)
end Hd
