/-! ===== holds: what is brought, at the worst ===== -/
section Hw
variable {I : gIt} {P ns nS : Nat}
def gsi (I : gIt) (P nS : Nat) (b : Int32) (A s i : Nat) : Nat := if i < nS ∧ sOf I i = s then trm I P nS b A i else 0
theorem nI_n1 {n : Nat} (h : n < 2 ^ 31) : ¬ nI n = -1 := fun q => by
  have := congrArg Int32.toInt q
  rw [nI_toInt h, show (-1 : Int32).toInt = -1 from rfl] at this
  omega
theorem x4_b72 (h : hdH I P ns nS) (b : Int32) (A : Nat) {r : gIt} (kr : gkeep I r) (hg : gS I nS b nS r) {s : Nat} (hs : s < ns) (hc : cst r (fallOf I P (A &&& nmS I P (I 0 14) s) s)) (K6 : gIt → Int32 → Int32 → Option (Int32 × gIt)) (x1 x3 : Int32) (a6 v : Nat) : ∀ (d f k : Nat), k + d = nS → d < f → p_X4_broughtBy_72 K6 r x1 x3 (nI s) a6 f (nI (v + sN (gsi I P nS b A s) k)) (nI k) = K6 r (nI (v + sN (gsi I P nS b A s) nS)) (nI (s + 1)) := by
  intro d
  obtain ⟨cx, hn, hnS, h84, h5, hset, hsal⟩ := id h
  have r84 : r 84 10 = nI nS := by rw [kr.2.1.2.2.2.2.2.2.2.2.1]; exact h84
  have hP := cx.1
  induction d with
  | zero =>
    intro f k hk hf
    obtain ⟨f, rfl⟩ : ∃ q, f = q + 1 := ⟨f - 1, by omega⟩
    unfold p_X4_broughtBy_72
    rw [r84, if_pos (nI_le (by omega) (by omega)), nI_1, show k = nS by omega]
  | succ d ih =>
    intro f k hk hf
    obtain ⟨f, rfl⟩ : ∃ q, f = q + 1 := ⟨f - 1, by omega⟩
    have nx := ih f (k + 1) (by omega) (by omega)
    obtain ⟨es, hsn⟩ := s_of h (i := k) (by omega)
    obtain ⟨el, hl⟩ := l_of h (i := k) (by omega)
    have g40 : gin (nI k) 40 = true := gin_nI (by omega) (by omega)
    have z : sN (gsi I P nS b A s) (k + 1) = sN (gsi I P nS b A s) k + gsi I P nS b A s k := rfl
    rw [z] at nx
    unfold p_X4_broughtBy_72
    rw [r84, if_neg (nI_ge (by omega) (by omega)), if_neg (show ¬ (40 : Int32) ≤ nI k from nI_ge (b := 40) (by omega) (by omega))]
    simp only [gck_t g40, nI_clamp (show k < 2 ^ 31 by omega), nI_1, gL_b, kr.1 86 (show gco 86 by unfold gco; omega), es, hg.2.2.2 k (show k < nS by omega), kr.1 85 (show gco 85 by unfold gco; omega), el, x3_givenTo hc (show slr I k < 16 by omega), gB_v]
    by_cases c : sOf I k = s
    · rw [if_pos (by rw [c])]
      have eg : gsi I P nS b A s k = trm I P nS b A k := by unfold gsi; rw [if_pos ⟨by omega, c⟩]
      rw [eg] at nx
      by_cases c2 : hld I b k = true
      · have h1 := fall_le h hs (A &&& nmS I P (I 0 14) s) (slr I k)
        have h2 := rch_le I nS (I 0 14) k
        have h3 : (fallOf I P (A &&& nmS I P (I 0 14) s) s).1 (slr I k) * rch I nS (I 0 14) k ≤ 100000 * 1000 := Nat.mul_le_mul h1 h2
        have et : trm I P nS b A k = (fallOf I P (A &&& nmS I P (I 0 14) s) s).1 (slr I k) * rch I nS (I 0 14) k / 1000 := by unfold trm; rw [if_pos c2, c]
        rw [if_pos c2, if_neg (nI_n1 (by omega)), pk_mul, show nI ((fallOf I P (A &&& nmS I P (I 0 14) s) s).1 (slr I k) * rch I nS (I 0 14) k) / (1000 : Int32) = nI ((fallOf I P (A &&& nmS I P (I 0 14) s) s).1 (slr I k) * rch I nS (I 0 14) k / 1000) from pk_div (d := 1000) (by omega) (by omega) (by omega), ← et, nI_add, Nat.add_assoc]
        exact nx
      · have et : trm I P nS b A k = 0 := by unfold trm; rw [if_neg c2]
        rw [et, Nat.add_zero] at nx
        rw [if_neg c2, if_pos rfl]
        exact nx
    · have eg : gsi I P nS b A s k = 0 := by unfold gsi; rw [if_neg (fun q => c q.2)]
      rw [eg, Nat.add_zero] at nx
      rw [if_neg (fun q => c ((nI_eq (by omega) (by omega)).mp q))]
      exact nx
theorem brg_eq (h : hdH I P ns nS) (b : Int32) (A : Nat) : sN (fun s => sN (gsi I P nS b A s) nS) ns = brg I P nS b A := by
  have := sN_swap (fun i s => gsi I P nS b A s i) nS ns
  rw [show sN (fun s => sN (gsi I P nS b A s) nS) ns = sN (fun k => sN (fun x => (fun i s => gsi I P nS b A s i) x k) nS) ns from rfl, this]
  unfold brg
  apply sN_cg
  intro i hi
  rw [if_pos hi]
  have e : (fun k => gsi I P nS b A k i) = fun k => if sOf I i = k then trm I P nS b A i else 0 := by
    funext k
    unfold gsi
    by_cases c : sOf I i = k
    · rw [if_pos ⟨hi, c⟩, if_pos c]
    · rw [if_neg (fun q => c q.2), if_neg c]
  show sN (fun k => gsi I P nS b A k i) ns = _
  rw [e, sN_one (s_of h hi).2]
theorem gS_67 {b : Int32} {r r' : gIt} {k : Nat} (h1 : r' 101 4 = r 101 4) (h2 : r' 101 5 = r 101 5) (h3 : r' 101 6 = r 101 6) (h4 : r' 102 = r 102) (hg : gS I nS b k r) : gS I nS b k r' := by
  unfold gS
  rw [h1, h2, h3, h4]
  exact hg
theorem x4_brought (h : hdH I P ns nS) (b : Int32) (A : Nat) {r : gIt} (hk : knw I P (I 0 14) r) (hg : gS I nS b nS r) : ∃ r', p_X4_broughtBy r (nI A) (nI ns) = some (nI (brg I P nS b A), r') ∧ fr67 r r' := by
  obtain ⟨cx, hn, hnS, h84, h5, hset, hsal⟩ := id h
  have hP := cx.1
  have key : ∀ (d f k : Nat) (r1 : gIt), k + d = ns → d < f → fr67 r r1 → ∃ r', p_X4_broughtBy_6 (nI A) (nI ns) f r1 (nI (sN (fun s => sN (gsi I P nS b A s) nS) k)) (nI k) = some (nI (brg I P nS b A), r') ∧ fr67 r r' := by
    intro d
    induction d with
    | zero =>
      intro f k r1 hk' hf hfr
      obtain ⟨f, rfl⟩ : ∃ q, f = q + 1 := ⟨f - 1, by omega⟩
      refine ⟨r1, ?_, hfr⟩
      unfold p_X4_broughtBy_6
      rw [if_pos (nI_le (by omega) (by omega)), show k = ns by omega, brg_eq h]
    | succ d ih =>
      intro f k r1 hk' hf hfr
      obtain ⟨f, rfl⟩ : ∃ q, f = q + 1 := ⟨f - 1, by omega⟩
      have kn1 := fr67_knw hfr hk
      have hg1 : gS I nS b nS r1 := gS_67 (by rw [hfr 101 (by decide) (by decide)]) (by rw [hfr 101 (by decide) (by decide)]) (by rw [hfr 101 (by decide) (by decide)]) (hfr 102 (by decide) (by decide)) hg
      obtain ⟨-, -, ⟨m, g3, g4⟩, -⟩ := id hg1
      unfold p_X4_broughtBy_6
      rw [if_neg (nI_ge (by omega) (by omega)), if_neg (nI_ge (by omega) (by omega)), gck_t (gin_nI (by omega) (by omega)), g3, ush1 (by have := g4.1; omega) (by omega), nI_clamp (by omega), x5_namedIn cx.1 kn1 (by omega) (hset k (by omega)), gB_v, nI_and, nI_1]
      have z : sN (fun s => sN (gsi I P nS b A s) nS) (k + 1) = sN (fun s => sN (gsi I P nS b A s) nS) k + sN (gsi I P nS b A k) nS := rfl
      by_cases c : m.testBit k = true
      · obtain ⟨r2, e2, d2, f2⟩ := x3_divide kn1 (nmS_alv (I := I) (P := P) (t := I 0 14) (s := k) A) cx.2.2.2.1 cx.2.2.2.2.1 (by omega) (hset k (by omega))
        have fr2 : fr67 r r2 := fun x h1 h2 => (f2 x h1 h2).trans (hfr x h1 h2)
        have kn2 := fr67_knw fr2 hk
        have hg2 : gS I nS b nS r2 := gS_67 (by rw [fr2 101 (by decide) (by decide)]) (by rw [fr2 101 (by decide) (by decide)]) (by rw [fr2 101 (by decide) (by decide)]) (fr2 102 (by decide) (by decide)) hg
        rw [if_neg (by rw [c]; decide), e2, gB_v]
        have := x4_b72 h b A kn2.1 hg2 (s := k) (by omega) d2 (fun I x4 x5 => p_X4_broughtBy_6 (nI A) (nI ns) f I x4 x5) (nI A) (nI ns) (14 + 6 * k) (sN (fun s => sN (gsi I P nS b A s) nS) k) nS gFu 0 (by omega) (by unfold gFu; omega)
        rw [show sN (gsi I P nS b A k) 0 = 0 from rfl, Nat.add_zero] at this
        rw [show p_X4_broughtBy_72 (fun I x4 x5 => p_X4_broughtBy_6 (nI A) (nI ns) f I x4 x5) r2 (nI A) (nI ns) (nI k) (14 + 6 * k) gFu (nI (sN (fun s => sN (gsi I P nS b A s) nS) k)) 0 = _ from this, ← z]
        exact ih f (k + 1) r2 (by omega) (by omega) fr2
      · rw [if_pos (by rw [if_neg c])]
        have z0 : sN (gsi I P nS b A k) nS = 0 := sN_0 (fun i hi => by
          unfold gsi
          by_cases q : sOf I i = k
          · rw [if_pos ⟨hi, q⟩]
            unfold trm
            rw [if_neg (fun hh => c ((g4.2 k (by omega)).mpr ⟨i, hi, hh, q⟩))]
          · rw [if_neg (fun w => q w.2)])
        have z' : sN (fun s => sN (gsi I P nS b A s) nS) (k + 1) = sN (fun s => sN (gsi I P nS b A s) nS) k := by rw [z, z0]; exact Nat.add_zero _
        rw [← z']
        exact ih f (k + 1) r1 (by omega) (by omega) hfr
  unfold p_X4_broughtBy
  exact key ns gFu 0 r (by omega) (by unfold gFu; omega) (fun _ _ _ => rfl)
/-- the worst so far, and in how many ways -/
def wsp (I : gIt) (P nS : Nat) (b : Int32) (D : Nat) : Nat → Nat × Nat
  | 0 => (0, 0)
  | j + 1 => if (wsp I P nS b D j).2 = 0 ∨ brg I P nS b (dep 32 j D) < (wsp I P nS b D j).1 then (brg I P nS b (dep 32 j D), 1) else if brg I P nS b (dep 32 j D) = (wsp I P nS b D j).1 then ((wsp I P nS b D j).1, (wsp I P nS b D j).2 + 1) else wsp I P nS b D j
theorem wsp_b (h : hdH I P ns nS) (b : Int32) (D : Nat) : ∀ j, (wsp I P nS b D j).1 ≤ 4000000 ∧ (wsp I P nS b D j).2 ≤ j ∧ (0 < j → 0 < (wsp I P nS b D j).2) := by
  intro j
  induction j with
  | zero => exact ⟨by unfold wsp; omega, by unfold wsp; omega, fun q => by omega⟩
  | succ j ih =>
    obtain ⟨i1, i2, i3⟩ := ih
    have hb : brg I P nS b (dep 32 j D) ≤ 100000 * nS := brg_le h b _ nS
    have hnS := h.2.2.1
    unfold wsp
    by_cases c : (wsp I P nS b D j).2 = 0 ∨ brg I P nS b (dep 32 j D) < (wsp I P nS b D j).1
    · rw [if_pos c]
      dsimp only
      omega
    · rw [if_neg c]
      by_cases c2 : brg I P nS b (dep 32 j D) = (wsp I P nS b D j).1
      · rw [if_pos c2]
        dsimp only
        omega
      · rw [if_neg c2]
        omega
theorem brg_4 (h : hdH I P ns nS) (b : Int32) (A : Nat) : brg I P nS b A ≤ 4000000 := by
  have hb : brg I P nS b A ≤ 100000 * nS := brg_le h b _ nS
  have hnS := h.2.2.1
  omega
theorem x4_worst (h : hdH I P ns nS) (b : Int32) {D m : Nat} (hD : D < 65536) (hm : m ≤ 8) : ∀ (d f j : Nat) (r : gIt), j + d = 2 ^ m → d < f → knw I P (I 0 14) r → gS I nS b nS r → r 101 7 = nI (wsp I P nS b D j).1 → r 101 8 = nI (wsp I P nS b D j).2 → ∃ r', p_X4_reckonWorst_38 (nI ns) (nI D) (nI m) f r (nI (dep 32 j D)) (nI j) = some (1, r') ∧ gkeep I r' ∧ r' 101 7 = nI (wsp I P nS b D (2 ^ m)).1 ∧ r' 101 8 = nI (wsp I P nS b D (2 ^ m)).2 := by
  intro d
  have pm : 2 ^ m ≤ 256 := show 2 ^ m ≤ 2 ^ 8 from Nat.pow_le_pow_right (by omega) hm
  induction d with
  | zero =>
    intro f j r hj hf hk hg h7 h8
    obtain ⟨f, rfl⟩ : ∃ q, f = q + 1 := ⟨f - 1, by omega⟩
    have : j = 2 ^ m := by omega
    subst this
    refine ⟨r, ?_, hk.1, h7, h8⟩
    unfold p_X4_reckonWorst_38
    rw [shl1 (by omega), if_pos (nI_le (Nat.le_refl _) (by omega))]
  | succ d ih =>
    intro f j r hj hf hk hg h7 h8
    obtain ⟨f, rfl⟩ : ∃ q, f = q + 1 := ⟨f - 1, by omega⟩
    obtain ⟨r2, e2, f2⟩ := x4_brought h b (dep 32 j D) hk hg
    obtain ⟨w1, w2, w3⟩ := wsp_b h b D j
    have hb := brg_4 h b (dep 32 j D)
    have hr7 : r2 101 7 = nI (wsp I P nS b D j).1 := by rw [f2 101 (by decide) (by decide)]; exact h7
    have hr8 : r2 101 8 = nI (wsp I P nS b D j).2 := by rw [f2 101 (by decide) (by decide)]; exact h8
    have kn2 := fr67_knw f2 hk
    have hg2 : gS I nS b nS r2 := gS_67 (by rw [f2 101 (by decide) (by decide)]) (by rw [f2 101 (by decide) (by decide)]) (by rw [f2 101 (by decide) (by decide)]) (f2 102 (by decide) (by decide)) hg
    have tl : ∃ r3, p_X4_tally r2 (nI (brg I P nS b (dep 32 j D))) = some r3 ∧ knw I P (I 0 14) r3 ∧ gS I nS b nS r3 ∧ r3 101 7 = nI (wsp I P nS b D (j + 1)).1 ∧ r3 101 8 = nI (wsp I P nS b D (j + 1)).2 := by
      unfold p_X4_tally wsp
      rw [hr8, hr7]
      by_cases c0 : (wsp I P nS b D j).2 = 0
      · rw [if_pos (by rw [c0]; rfl), if_pos (Or.inl c0), gL_b, gL_b]
        exact ⟨_, rfl, knw_w (knw_w kn2 (gf101 _) (by decide) (by decide)) (gf101 _) (by decide) (by decide), gS_67 rfl rfl rfl rfl hg2, by rw [gu_sl, if_neg (by decide), gu_sl, if_pos rfl], by rw [gu_sl, if_pos rfl]; rfl⟩
      · rw [if_neg (nI_ne0 (by omega) (by omega))]
        by_cases c1 : brg I P nS b (dep 32 j D) < (wsp I P nS b D j).1
        · rw [if_neg (nI_ge c1 (by omega)), if_pos (Or.inr c1), gL_b, gL_b]
          exact ⟨_, rfl, knw_w (knw_w kn2 (gf101 _) (by decide) (by decide)) (gf101 _) (by decide) (by decide), gS_67 rfl rfl rfl rfl hg2, by rw [gu_sl, if_neg (by decide), gu_sl, if_pos rfl], by rw [gu_sl, if_pos rfl]; rfl⟩
        · have c01 : ¬ ((wsp I P nS b D j).2 = 0 ∨ brg I P nS b (dep 32 j D) < (wsp I P nS b D j).1) := fun q => by
            rcases q with q | q
            · exact c0 q
            · exact c1 q
          rw [if_pos (nI_le (by omega) (by omega)), if_neg c01]
          by_cases c2 : brg I P nS b (dep 32 j D) = (wsp I P nS b D j).1
          · rw [if_pos (show nI (brg I P nS b (dep 32 j D)) = nI (wsp I P nS b D j).1 by rw [c2]), if_pos c2, gL_b, gL_b, nI_1]
            exact ⟨_, rfl, knw_w kn2 (gf101 _) (by decide) (by decide), gS_67 rfl rfl rfl rfl hg2, by rw [gu_sl, if_neg (by decide)]; exact hr7, by rw [gu_sl, if_pos rfl]⟩
          · rw [if_neg (show ¬ nI (brg I P nS b (dep 32 j D)) = nI (wsp I P nS b D j).1 from fun q => c2 ((nI_eq (by omega) (by omega)).mp q)), if_neg c2]
            exact ⟨r2, rfl, kn2, hg2, hr7, hr8⟩
    obtain ⟨r3, e3, kn3, hg3, q7, q8⟩ := tl
    unfold p_X4_reckonWorst_38
    rw [shl1 (by omega), if_neg (nI_ge (by omega) (by omega)), e2, gB_v]
    dsimp only
    rw [e3, gB_v, gL_b, dep_nx j hD, nI_1]
    exact ih f (j + 1) r3 (by omega) (by omega) kn3 hg3 q7 q8
/-! the reference -/
theorem x12_isHeld (h : hdH I P ns nS) {M : gIt} (kM : gkeep I M) (b : Int32) {i : Nat} (hi : i < nS) : p_X12_isHeld M (nI i) b = some (if hld I b i then 1 else 0) := by
  obtain ⟨cx, hn, hnS, h84, h5, hset, hsal⟩ := id h
  have hP := cx.1
  have g40 : gin (nI i) 40 = true := gin_nI (by omega) (by omega)
  obtain ⟨es, hsn⟩ := s_of h hi
  obtain ⟨eT, hT⟩ := t_of h hsn
  obtain ⟨⟨-, q2, -, q4, -, -, -, -, -, q10⟩, -⟩ := hsal i hi
  have cx2 := ctx_k kM cx
  have e158 : M 158 (sOf I i) = nI (tOf I (sOf I i)) := by rw [kM.1 158 (by unfold gco; omega), (hset _ hsn).2.1.1, eT]
  have m2 : M 149 2 = I 0 14 := by rw [kM.2.2.2.2.1]; exact cx.2.2.2.2.2
  unfold p_X12_isHeld hld
  rw [m2]
  simp only [gck_t g40, nI_clamp (show i < 2 ^ 31 by omega), kM.1 177 (show gco 177 by unfold gco; omega), kM.1 183 (show gco 183 by unfold gco; omega), kM.1 175 (show gco 175 by unfold gco; omega), q2, q4, q10, es, gck_t (gin_nI (show sOf I i < 10 by omega) (by omega)), nI_clamp (show sOf I i < 2 ^ 31 by omega), e158, x12_kd M (show tOf I (sOf I i) < 16 by omega) (iPer_kd (cx2.2.2.2.1 _ hT)) (I 0 14), gB_v, kM.1 5 (show gco 5 by unfold gco; omega), kM.1 6 (show gco 6 by unfold gco; omega)]
  unfold ded
  by_cases c1 : I 88 i = b
  · by_cases c2 : I 94 i = -1
    · rw [if_pos c1, if_pos c2, decide_eq_true ⟨c1, c2⟩]
      by_cases c3 : ¬ I 5 (tOf I (sOf I i)) = -1 ∧ (I 6 (tOf I (sOf I i))).toInt ≤ (I 0 14).toInt
      · rw [if_pos c3, decide_eq_true c3]; rfl
      · rw [if_neg c3, decide_eq_false c3]; rfl
    · rw [if_pos c1, if_neg c2, decide_eq_false (fun q => c2 q.2)]; rfl
  · rw [if_neg c1, decide_eq_false (fun q => c1 q.1)]; rfl
theorem m_175 (h : hdH I P ns nS) {M : gIt} (kM : gkeep I M) {i : Nat} (hi : i < nS) : M 175 i = nI (sOf I i) := by
  obtain ⟨⟨-, q2, -⟩, -⟩ := h.2.2.2.2.2.2 i hi
  rw [kM.1 175 (by unfold gco; omega), q2, (s_of h hi).1]
theorem m_nms (h : hdH I P ns nS) {M : gIt} (kM : gkeep I M) {s : Nat} (hs : s < ns) : p_X12_namedSet M (nI s) (I 0 14) = some (nI (nmS I P (I 0 14) s)) := by
  obtain ⟨cx, hn, hnS, h84, h5, hset, hsal⟩ := id h
  have cx2 := ctx_k kM cx
  rw [x12_namedSet cx2.1 cx2.2.2.1 cx2.2.2.2.1 _ (by omega) (by rw [iSet1_k kM P s (by omega)]; exact hset s hs), nmS_k kM (by omega)]
theorem x12_tenants (h : hdH I P ns nS) {M : gIt} (kM : gkeep I M) (b : Int32) : ∃ T, T < 65536 ∧ (∀ o, o < 16 → (T.testBit o = true ↔ ∃ i, i < nS ∧ hld I b i = true ∧ tOf I (sOf I i) = o)) ∧ p_X12_tenantsOf M b = some (nI T) := by
  obtain ⟨cx, hn, hnS, h84, h5, hset, hsal⟩ := id h
  have hP := cx.1
  have m5 : M 149 5 = nI nS := by rw [kM.2.2.2.2.2.2.2.1]; exact h5
  have key : ∀ (d f k T : Nat), k + d = nS → d < f → T < 65536 → (∀ o, o < 16 → (T.testBit o = true ↔ ∃ i, i < k ∧ hld I b i = true ∧ tOf I (sOf I i) = o)) → ∃ T', T' < 65536 ∧ (∀ o, o < 16 → (T'.testBit o = true ↔ ∃ i, i < nS ∧ hld I b i = true ∧ tOf I (sOf I i) = o)) ∧ p_X12_tenantsOf_4 M b f (nI T) (nI k) = some (nI T') := by
    intro d
    induction d with
    | zero =>
      intro f k T hk hf hT bT
      obtain ⟨f, rfl⟩ : ∃ q, f = q + 1 := ⟨f - 1, by omega⟩
      have : k = nS := by omega
      subst this
      refine ⟨T, hT, bT, ?_⟩
      unfold p_X12_tenantsOf_4
      rw [m5, if_pos (nI_le (by omega) (by omega))]
    | succ d ih =>
      intro f k T hk hf hT bT
      obtain ⟨f, rfl⟩ : ∃ q, f = q + 1 := ⟨f - 1, by omega⟩
      obtain ⟨es, hsn⟩ := s_of h (i := k) (by omega)
      obtain ⟨eT, hT'⟩ := t_of h hsn
      have e158 : M 158 (sOf I k) = nI (tOf I (sOf I k)) := by rw [kM.1 158 (by unfold gco; omega), (hset _ hsn).2.1.1, eT]
      unfold p_X12_tenantsOf_4
      rw [m5, if_neg (nI_ge (by omega) (by omega)), x12_isHeld h kM b (by omega), gB_v, gck_t (gin_nI (by omega) (by omega)), nI_clamp (by omega), m_175 h kM (by omega), gck_t (gin_nI (by omega) (by omega)), nI_clamp (by omega), e158, shl1 (by omega), nI_or, or0, gL_b, gL_b, nI_1]
      by_cases c : hld I b k = true
      · rw [if_neg (by rw [c]; decide)]
        refine ih f (k + 1) _ (by omega) (by omega) (or_lt16 hT (by omega)) (fun o ho => ?_)
        rw [tb_set, bT o ho]
        constructor
        · rintro (⟨i, hi, z⟩ | z)
          · exact ⟨i, by omega, z⟩
          · exact ⟨k, by omega, c, z.symm⟩
        · rintro ⟨i, hi, z1, z2⟩
          by_cases e : i = k
          · rw [e] at z2; exact Or.inr z2.symm
          · exact Or.inl ⟨i, by omega, z1, z2⟩
      · rw [if_pos (by rw [if_neg c])]
        refine ih f (k + 1) T (by omega) (by omega) hT (fun o ho => ?_)
        rw [bT o ho]
        constructor
        · rintro ⟨i, hi, z⟩; exact ⟨i, by omega, z⟩
        · rintro ⟨i, hi, z1, z2⟩
          by_cases e : i = k
          · rw [e] at z1; exact absurd z1 c
          · exact ⟨i, by omega, z1, z2⟩
  unfold p_X12_tenantsOf
  refine key nS gFu 0 0 (by omega) (by unfold gFu; omega) (by decide) (fun o ho => ?_)
  rw [Nat.zero_testBit]
  constructor
  · intro q; exact absurd q (by decide)
  · rintro ⟨i, hi, -⟩; omega
theorem x12_living (h : hdH I P ns nS) {M : gIt} (kM : gkeep I M) (b : Int32) : ∃ D, dbS I P nS b D ∧ p_X12_livingOf M b = some (nI D) := by
  obtain ⟨cx, hn, hnS, h84, h5, hset, hsal⟩ := id h
  have hP := cx.1
  have cx2 := ctx_k kM cx
  have m5 : M 149 5 = nI nS := by rw [kM.2.2.2.2.2.2.2.1]; exact h5
  have m3 : M 149 3 = nI P := by rw [kM.2.2.2.2.2.1]; exact cx.2.2.1
  have m2 : M 149 2 = I 0 14 := by rw [kM.2.2.2.2.1]; exact cx.2.2.2.2.2
  obtain ⟨T, hT, bT, eT⟩ := x12_tenants h kM b
  -- the persons
  have l53 : ∀ (N : Nat), N < 65536 → ∀ (d f k : Nat), k + d = P → d < f → p_X12_livingOf_53 M b (nI N) f (nI (gM (fun o => (N &&& (T ^^^ (2 ^ 32 - 1))).testBit o && !(ded I (I 0 14) o)) k)) (nI k) = some (nI (gM (fun o => (N &&& (T ^^^ (2 ^ 32 - 1))).testBit o && !(ded I (I 0 14) o)) P)) := by
    intro N hN d
    induction d with
    | zero =>
      intro f k hk hf
      obtain ⟨f, rfl⟩ : ∃ q, f = q + 1 := ⟨f - 1, by omega⟩
      unfold p_X12_livingOf_53
      rw [m3, if_pos (nI_le (by omega) (by omega)), show k = P by omega]
    | succ d ih =>
      intro f k hk hf
      obtain ⟨f, rfl⟩ : ∃ q, f = q + 1 := ⟨f - 1, by omega⟩
      have nx := ih f (k + 1) (by omega) (by omega)
      have ed : (if ¬ M 5 k = -1 ∧ (M 6 k).toInt ≤ (I 0 14).toInt then (1 : Int32) else 0) = if ded I (I 0 14) k then 1 else 0 := by
        unfold ded
        rw [kM.1 5 (by unfold gco; omega), kM.1 6 (by unfold gco; omega)]
        by_cases q : ¬ I 5 k = -1 ∧ (I 6 k).toInt ≤ (I 0 14).toInt
        · rw [if_pos q, decide_eq_true q]; rfl
        · rw [if_neg q, decide_eq_false q]; rfl
      unfold p_X12_livingOf_53
      rw [m3, if_neg (nI_ge (by omega) (by omega)), eT, gB_v, em1, nI_xor, nI_and, x12_has (by have : N &&& (T ^^^ (2 ^ 32 - 1)) < 65536 := lt_and hN; omega) (by omega), gB_v, m2, x12_kd M (by omega) (iPer_kd (cx2.2.2.2.1 k (by omega))) (I 0 14), gB_v, ed, shl1 (by omega), nI_or, or0, gL_b, gL_b, nI_1]
      by_cases c1 : (N &&& (T ^^^ (2 ^ 32 - 1))).testBit k = true
      · rw [if_neg (by rw [c1]; decide)]
        by_cases c2 : ded I (I 0 14) k = true
        · rw [if_neg (by rw [c2]; decide), gM_s0 _ (by rw [c2]; simp)]
          exact nx
        · rw [if_pos (by rw [if_neg c2]), gM_s1 _ (by
            rw [c1]
            cases e : ded I (I 0 14) k with
            | false => rfl
            | true => exact absurd e c2)]
          exact nx
      · rw [if_pos (by rw [if_neg c1]), gM_s0 _ (by rw [Bool.and_eq_true]; exact fun q => c1 q.1)]
        exact nx
  have l4 : ∀ (d f k N : Nat), k + d = nS → d < f → N < 65536 → (∀ o, o < 16 → (N.testBit o = true ↔ ∃ i, i < k ∧ hld I b i = true ∧ (nmS I P (I 0 14) (sOf I i)).testBit o = true)) → ∃ D, dbS I P nS b D ∧ p_X12_livingOf_4 M b f (nI N) (nI k) = some (nI D) := by
    intro d
    induction d with
    | zero =>
      intro f k N hk hf hN bN
      obtain ⟨f, rfl⟩ : ∃ q, f = q + 1 := ⟨f - 1, by omega⟩
      have : k = nS := by omega
      subst this
      refine ⟨gM (fun o => (N &&& (T ^^^ (2 ^ 32 - 1))).testBit o && !(ded I (I 0 14) o)) P, ⟨Nat.lt_of_lt_of_le (gM_lt _ _) (show 2 ^ P ≤ 2 ^ 16 from Nat.pow_le_pow_right (by omega) hP), fun o ho => ?_⟩, ?_⟩
      · rw [gM_tb, Nat.testBit_and, tb_m1 ho, Bool.and_eq_true, Bool.and_eq_true, Bool.and_eq_true, Bool.not_eq_true', Bool.not_eq_true', bN o ho, decide_eq_true_eq]
        unfold dbt
        constructor
        · rintro ⟨q0, ⟨q1, q2⟩, q3⟩
          refine ⟨q1, by rw [q3]; decide, fun z => ?_⟩
          rw [(bT o ho).mpr z] at q2
          exact absurd q2 (by decide)
        · rintro ⟨q1, q2, q3⟩
          refine ⟨?_, ⟨q1, ?_⟩, ?_⟩
          · obtain ⟨i, hi, z1, z2⟩ := q1
            have := nmS_thr ho z2
            unfold thr at this
            rw [decide_eq_true_eq] at this
            exact this.1
          · cases e : T.testBit o with
            | false => rfl
            | true => exact absurd ((bT o ho).mp e) q3
          · cases e : ded I (I 0 14) o with
            | false => rfl
            | true => exact absurd e q2
      · unfold p_X12_livingOf_4
        rw [m5, if_pos (nI_le (by omega) (by omega))]
        exact l53 N hN P gFu 0 (by omega) (by unfold gFu; omega)
    | succ d ih =>
      intro f k N hk hf hN bN
      obtain ⟨f, rfl⟩ : ∃ q, f = q + 1 := ⟨f - 1, by omega⟩
      obtain ⟨es, hsn⟩ := s_of h (i := k) (by omega)
      unfold p_X12_livingOf_4
      rw [m5, if_neg (nI_ge (by omega) (by omega)), x12_isHeld h kM b (by omega), gB_v, gck_t (gin_nI (by omega) (by omega)), nI_clamp (by omega), m_175 h kM (by omega), m2, m_nms h kM hsn, gB_v, nI_or, or0, gL_b, gL_b, nI_1]
      by_cases c : hld I b k = true
      · rw [if_neg (by rw [c]; decide)]
        refine ih f (k + 1) _ (by omega) (by omega) (or_lt hN (nmS_lt I P (I 0 14) (sOf I k))) (fun o ho => ?_)
        rw [tb_or, bN o ho]
        constructor
        · rintro (⟨i, hi, z⟩ | z)
          · exact ⟨i, by omega, z⟩
          · exact ⟨k, by omega, c, z⟩
        · rintro ⟨i, hi, z1, z2⟩
          by_cases e : i = k
          · rw [e] at z2; exact Or.inr z2
          · exact Or.inl ⟨i, by omega, z1, z2⟩
      · rw [if_pos (by rw [if_neg c])]
        refine ih f (k + 1) N (by omega) (by omega) hN (fun o ho => ?_)
        rw [bN o ho]
        constructor
        · rintro ⟨i, hi, z⟩; exact ⟨i, by omega, z⟩
        · rintro ⟨i, hi, z1, z2⟩
          by_cases e : i = k
          · rw [e] at z1; exact absurd z1 c
          · exact ⟨i, by omega, z1, z2⟩
  unfold p_X12_livingOf
  refine l4 nS gFu 0 0 (by omega) (by unfold gFu; omega) (by decide) (fun o ho => ?_)
  rw [Nat.zero_testBit]
  constructor
  · intro q; exact absurd q (by decide)
  · rintro ⟨i, hi, -⟩; omega
theorem x12_brings (h : hdH I P ns nS) {M : gIt} (kM : gkeep I M) (b : Int32) (A : Nat) : ∃ M', p_X12_bringsOf M b (nI A) = some (lN (brg I P nS b A), M') ∧ gkeep I M' := by
  obtain ⟨cx, hn, hnS, h84, h5, hset, hsal⟩ := id h
  have hP := cx.1
  obtain ⟨sp, se⟩ := sal_p hsal
  have key : ∀ (d f k : Nat) (M : gIt), k + d = nS → d < f → gkeep I M → ∃ M', p_X12_bringsOf_5 b (nI A) f M (lN (sN (fun i => if i < nS then trm I P nS b A i else 0) k)) (nI k) = some (lN (brg I P nS b A), M') ∧ gkeep I M' := by
    intro d
    induction d with
    | zero =>
      intro f k M hk hf kM
      obtain ⟨f, rfl⟩ : ∃ q, f = q + 1 := ⟨f - 1, by omega⟩
      refine ⟨M, ?_, kM⟩
      unfold p_X12_bringsOf_5
      rw [kM.2.2.2.2.2.2.2.1, h5, if_pos (nI_le (by omega) (by omega)), show k = nS by omega]
      rfl
    | succ d ih =>
      intro f k M hk hf kM
      obtain ⟨f, rfl⟩ : ∃ q, f = q + 1 := ⟨f - 1, by omega⟩
      have nx := fun M' => ih f (k + 1) M' (by omega) (by omega)
      have z : sN (fun i => if i < nS then trm I P nS b A i else 0) (k + 1) = sN (fun i => if i < nS then trm I P nS b A i else 0) k + trm I P nS b A k := by
        show _ + (if k < nS then _ else 0) = _
        rw [if_pos (by omega)]
      rw [z] at nx
      unfold p_X12_bringsOf_5
      rw [kM.2.2.2.2.2.2.2.1, h5, if_neg (nI_ge (by omega) (by omega)), x12_isHeld h kM b (by omega), gB_v, nI_1]
      by_cases c : hld I b k = true
      · obtain ⟨es, hsn⟩ := s_of h (i := k) (by omega)
        obtain ⟨el, hl⟩ := l_of h (i := k) (by omega)
        have cx2 := ctx_k kM cx
        have m2 : M 149 2 = I 0 14 := by rw [kM.2.2.2.2.1]; exact cx.2.2.2.2.2
        obtain ⟨M2, e2, q2, f2⟩ := x12_lets cx2.1 cx2.2.2.1 cx2.2.2.2.1 (alv_k kM (nmS_alv (I := I) (P := P) (t := I 0 14) (s := sOf I k) A)) (s := sOf I k) (by omega) (by rw [iSet1_k kM P _ (by omega)]; exact hset _ hsn)
        have k2 : gkeep I M2 := gkeep_tr kM (frL_keep f2)
        have m22 : M2 149 2 = I 0 14 := by rw [k2.2.2.2.2.1]; exact cx.2.2.2.2.2
        have m174 : M2 174 k = nI (slr I k) := by rw [k2.1 174 (by unfold gco; omega), (se k (by omega)).1, el]
        have m25 : M2 149 5 = nI nS := by rw [k2.2.2.2.2.2.2.2.1]; exact h5
        have h1 := fall_le h hsn (A &&& nmS I P (I 0 14) (sOf I k)) (slr I k)
        have h2 := rch_le I nS (I 0 14) k
        have h3 : (fallOf I P (A &&& nmS I P (I 0 14) (sOf I k)) (sOf I k)).1 (slr I k) * rch I nS (I 0 14) k ≤ 100000 * 1000 := Nat.mul_le_mul h1 h2
        have et : trm I P nS b A k = (fallOf I P (A &&& nmS I P (I 0 14) (sOf I k)) (sOf I k)).1 (slr I k) * rch I nS (I 0 14) k / 1000 := by unfold trm; rw [if_pos c]
        rw [if_pos c, if_neg (by decide), gck_t (gin_nI (by omega) (by omega)), gck_t (gin_nI (by omega) (by omega)), nI_clamp (by omega), m_175 h kM (by omega), m2, m_nms h kM hsn, gB_v, nI_and, e2, gB_v, gck_t (gin_nI (by omega) (by omega)), m174, gck_t (gin_nI (by omega) (by omega)), nI_clamp (by omega), m22, x12_partsOf hnS m25 (p1000_k k2 sp) (sEq_k k2 se) (I 0 14) (by omega) (sOn_k k2 (son_now h _)), gB_v, rch_k k2, q2.2 _ (by omega), fallOf_k kM (by omega), nI_l (by omega), nI_l (by omega), lN_mul, show lN ((fallOf I P (A &&& nmS I P (I 0 14) (sOf I k)) (sOf I k)).1 (slr I k) * rch I nS (I 0 14) k) / (1000 : Int64) = lN ((fallOf I P (A &&& nmS I P (I 0 14) (sOf I k)) (sOf I k)).1 (slr I k) * rch I nS (I 0 14) k / 1000) from pk_lDiv (b := 1000) (by omega) (by omega) (by omega), ← et, lN_add, gL_b]
        exact nx M2 k2
      · have et : trm I P nS b A k = 0 := by unfold trm; rw [if_neg c]
        rw [et, Nat.add_zero] at nx
        rw [if_neg c, if_pos rfl]
        exact nx M kM
  unfold p_X12_bringsOf
  exact key nS gFu 0 M (by omega) (by unfold gFu; omega) kM
theorem lgc_ge {a b : Int64} : 0 ≤ lg_cmp a b ↔ ¬ a.toInt < b.toInt := by
  rw [← lgc_lt, Int32.le_iff_toInt_le, Int32.lt_iff_toInt_lt]
  omega
def wsY (q : Nat × Nat) : Int64 := if q.2 = 0 then -1 else lN q.1
theorem x12_wstep (h : hdH I P ns nS) (b x2 x3 x4 : Int32) {D m : Nat} (hD : D < 65536) (em : gpc 16 D = m) (hm : m ≤ 8) {j : Nat} (hj : j < 2 ^ m) (f : Nat) {M : gIt} (kM : gkeep I M) : ∃ M', p_X12_holds_138 b x2 x3 x4 (nI D) (f + 1) M (wsY (wsp I P nS b D j)) (nI (wsp I P nS b D j).2) (nI (dep 32 j D)) 1 = p_X12_holds_138 b x2 x3 x4 (nI D) f M' (wsY (wsp I P nS b D (j + 1))) (nI (wsp I P nS b D (j + 1)).2) (nI (dep 32 (j + 1) D)) (if j + 1 = 2 ^ m then 0 else 1) ∧ gkeep I M' := by
  have pm : 2 ^ m ≤ 256 := show 2 ^ m ≤ 2 ^ 8 from Nat.pow_le_pow_right (by omega) hm
  have dz : dep 32 (j + 1) D = 0 ↔ j + 1 = 2 ^ m := by
    rw [dep_z, gpc_32 hD, em]
    constructor
    · intro q
      by_cases e : j + 1 = 2 ^ m
      · exact e
      · rw [Nat.mod_eq_of_lt (by omega)] at q; omega
    · intro q; rw [q, Nat.mod_self]
  have dl := dep_le 32 (j + 1) D
  obtain ⟨M', e1, k1⟩ := x12_brings h kM b (dep 32 j D)
  obtain ⟨w1, w2, w3⟩ := wsp_b h b D j
  have hb := brg_4 h b (dep 32 j D)
  refine ⟨M', ?_, k1⟩
  have fin : ∀ (y6 : Int64) (x8 : Int32), (if nI (dep 32 (j + 1) D) = 0 then p_X12_holds_138 b x2 x3 x4 (nI D) f M' y6 x8 (nI (dep 32 (j + 1) D)) 0 else p_X12_holds_138 b x2 x3 x4 (nI D) f M' y6 x8 (nI (dep 32 (j + 1) D)) 1) = p_X12_holds_138 b x2 x3 x4 (nI D) f M' y6 x8 (nI (dep 32 (j + 1) D)) (if j + 1 = 2 ^ m then 0 else 1) := fun y6 x8 => by
    by_cases c : j + 1 = 2 ^ m
    · rw [if_pos c, if_pos (by rw [dz.mpr c]; rfl)]
    · rw [if_neg c, if_neg (show ¬ nI (dep 32 (j + 1) D) = 0 from fun q => c (dz.mp ((nI_inj (b := 0) (by omega) (by omega)).mp q)))]
  have st : wsp I P nS b D (j + 1) = if (wsp I P nS b D j).2 = 0 ∨ brg I P nS b (dep 32 j D) < (wsp I P nS b D j).1 then (brg I P nS b (dep 32 j D), 1) else if brg I P nS b (dep 32 j D) = (wsp I P nS b D j).1 then ((wsp I P nS b D j).1, (wsp I P nS b D j).2 + 1) else wsp I P nS b D j := rfl
  conv => lhs; unfold p_X12_holds_138
  rw [if_neg (by decide), e1, gB_v]
  dsimp only
  rw [dep_nx j hD, st]
  generalize wsp I P nS b D j = q at w1 w2 w3
  obtain ⟨W, n⟩ := q
  dsimp only at w1 w2 w3 ⊢
  generalize brg I P nS b (dep 32 j D) = v at hb
  unfold wsY
  dsimp only
  by_cases c0 : n = 0
  · rw [if_pos c0, if_pos (lgc_eq.mpr rfl), gB_v, if_pos (lgc_eq.mpr rfl), gB_v, gL_b, fin, if_pos (Or.inl c0)]
    rfl
  · have nm : ¬ lg_cmp (lN W) (-1) = 0 := fun q => by
      have := congrArg Int64.toInt (lgc_eq.mp q)
      rw [lN_toInt (by omega), show (-1 : Int64).toInt = -1 from rfl] at this
      omega
    rw [if_neg c0, if_neg nm, if_neg nm]
    have tv : (lN v).toInt = v := lN_toInt (by omega)
    have tW : (lN W).toInt = W := lN_toInt (by omega)
    by_cases c1 : v < W
    · have g0 : ¬ 0 ≤ lg_cmp (lN v) (lN W) := fun q => lgc_ge.mp q (by rw [tv, tW]; omega)
      rw [if_neg g0, if_neg g0, gB_v, gB_v, gL_b, fin, if_pos (Or.inr c1)]
      rfl
    · have g0 : 0 ≤ lg_cmp (lN v) (lN W) := lgc_ge.mpr (by rw [tv, tW]; omega)
      rw [if_pos g0, if_pos g0, if_neg (show ¬ (n = 0 ∨ v < W) from fun q => by rcases q with q | q; exact c0 q; exact c1 q)]
      by_cases c2 : v = W
      · rw [if_pos (lgc_eq.mpr (by rw [c2])), gB_v, gB_v, gL_b, fin, if_pos c2, nI_1]
        dsimp only
        rw [if_neg (show ¬ n + 1 = 0 by omega)]
      · rw [if_neg (fun q => c2 ((lN_eq (by omega) (by omega)).mp (lgc_eq.mp q))), gB_v, gB_v, gL_b, fin, if_neg c2]
        dsimp only
        rw [if_neg c0]
theorem x12_worst (h : hdH I P ns nS) (b x2 x3 x4 : Int32) {D m : Nat} (hD : D < 65536) (em : gpc 16 D = m) (hm : m ≤ 8) : ∀ (d f j : Nat) (M : gIt), j + d = 2 ^ m → d < f → gkeep I M → ∃ M', p_X12_holds_138 b x2 x3 x4 (nI D) f M (wsY (wsp I P nS b D j)) (nI (wsp I P nS b D j).2) (nI (dep 32 j D)) (if j = 2 ^ m then 0 else 1) = some ((if x2 = 2 then nI (wsp I P nS b D (2 ^ m)).1 else nI (wsp I P nS b D (2 ^ m)).2), M') ∧ gkeep I M' := by
  intro d
  have p0 : 0 < 2 ^ m := Nat.two_pow_pos m
  induction d with
  | zero =>
    intro f j M hj hf kM
    obtain ⟨f, rfl⟩ : ∃ q, f = q + 1 := ⟨f - 1, by omega⟩
    have : j = 2 ^ m := by omega
    subst this
    obtain ⟨w1, w2, w3⟩ := wsp_b h b D (2 ^ m)
    refine ⟨M, ?_, kM⟩
    unfold p_X12_holds_138
    rw [if_pos rfl, if_pos rfl]
    unfold wsY
    rw [if_neg (show ¬ (wsp I P nS b D (2 ^ m)).2 = 0 from by have := w3 p0; omega), lN_i]
    by_cases c : x2 = 2
    · rw [if_pos c, if_pos c]
    · rw [if_neg c, if_neg c]
  | succ d ih =>
    intro f j M hj hf kM
    obtain ⟨f, rfl⟩ : ∃ q, f = q + 1 := ⟨f - 1, by omega⟩
    obtain ⟨M', e1, k1⟩ := x12_wstep h b x2 x3 x4 hD em hm (j := j) (by omega) f kM
    rw [if_neg (by omega), e1]
    exact ih f (j + 1) M' (by omega) (by omega) k1
theorem x12_h30 (h : hdH I P ns nS) {M : gIt} (kM : gkeep I M) (b x2 : Int32) (R : Option (Int32 × gIt)) (hR : (if (2 : Int32) ≤ x2 then gB (p_X12_livingOf M b) fun r9 => gB (p_X12_sizeOf r9) fun r11 => if r11 ≤ (8 : Int32) then p_X12_holds_138 b x2 (nI (gCt (hld I b) nS)) (nI (ptsH I b nS)) r9 gFu M (-1 : Int64) (0 : Int32) (0 : Int32) (1 : Int32) else some ((-1 : Int32), M) else if x2 = 0 then some (nI (gCt (hld I b) nS), M) else some (nI (ptsH I b nS), M)) = R) : ∀ (d f k : Nat), k + d = nS → d < f → p_X12_holds_30 M b x2 f (nI (gCt (hld I b) k)) (nI (ptsH I b k)) (nI k) = R := by
  intro d
  obtain ⟨cx, hn, hnS, h84, h5, hset, hsal⟩ := id h
  obtain ⟨sp, se⟩ := sal_p hsal
  have m5 : M 149 5 = nI nS := by rw [kM.2.2.2.2.2.2.2.1]; exact h5
  have z0 : ∀ x : Int32, x + 0 = x := fun x => Int32.add_zero x
  induction d with
  | zero =>
    intro f k hk hf
    obtain ⟨f, rfl⟩ : ∃ q, f = q + 1 := ⟨f - 1, by omega⟩
    have : k = nS := by omega
    subst this
    unfold p_X12_holds_30
    rw [m5, if_pos (nI_le (by omega) (by omega))]
    exact hR
  | succ d ih =>
    intro f k hk hf
    obtain ⟨f, rfl⟩ : ∃ q, f = q + 1 := ⟨f - 1, by omega⟩
    have nx := ih f (k + 1) (by omega) (by omega)
    obtain ⟨p, ep, hp⟩ := sp k (by omega)
    have e176 : M 176 k = nI p := by rw [kM.1 176 (by unfold gco; omega), (se k (by omega)).2.2.1, ep]
    have zp : ptsH I b (k + 1) = ptsH I b k + if hld I b k then (I 87 k).toNatClampNeg else 0 := rfl
    rw [zp, ep, nI_clamp (by omega)] at nx
    unfold gCt at nx
    unfold p_X12_holds_30
    rw [m5, if_neg (nI_ge (by omega) (by omega)), x12_isHeld h kM b (by omega), gB_v]
    have g40 : gin (nI k) 40 = true := gin_nI (by omega) (by omega)
    by_cases c : hld I b k = true
    · rw [if_pos c, if_pos c] at nx
      simp only [if_pos c, gB_v, gL_b, gck_t g40, nI_clamp (show k < 2 ^ 31 by omega), e176, nI_1, nI_add, if_neg (show ¬ (1 : Int32) = 0 by decide)]
      exact nx
    · rw [if_neg c, if_neg c, Nat.add_zero, Nat.add_zero] at nx
      simp only [if_neg c, if_true, gB_v, gL_b, nI_1, z0]
      exact nx
end Hw
set_option maxHeartbeats 4000000 in
theorem EE23 : EE_23 gInv := by
  intro I J w x1 x2 hI
  obtain ⟨P, ns, nS, nC, nP, nT, hs, hr⟩ := id hI
  obtain ⟨⟨y1, y2, y3⟩, ⟨b1, b1', b1''⟩, ⟨b2, b2', b2''⟩, ⟨b3, b3', b3''⟩, -⟩ := id hs
  have h : hdH I P ns nS := ⟨⟨b1'', b1, b1', hr.1, y3, y1⟩, b2'', b3'', b3, b3', hr.2.2.2.2.2.2.2.1, hr.2.2.2.1⟩
  by_cases c1 : 0 ≤ x1.toInt ∧ x1.toInt < P
  · by_cases c2 : 0 ≤ x2.toInt ∧ x2.toInt ≤ 3
    · obtain ⟨r, e, l⟩ := x5_learn b1'' b1 hr.1 (I 0 14)
      have kn := lrn_knw l
      obtain ⟨r8, e8, kn8, g8⟩ := x4_gather h x1 kn
      have m3 : ∀ M, gkeep I M → M 149 3 = nI P := fun M k => by rw [k.2.2.2.2.2.1]; exact b1'
      have n1 : ¬ x2 < 0 := by rw [Int32.lt_iff_toInt_lt]; simp only [Int32.reduceToInt]; omega
      have n2 : x2 ≤ 3 := by rw [Int32.le_iff_toInt_le]; simp only [Int32.reduceToInt]; omega
      have cls : ∀ R, (if x2 = 0 then some (r8 101 4, r8) else if x2 = 1 then some (r8 101 5, r8) else gB (p_X4_reckonWorst r8 (nI ns)) fun r12 => if r12.1 = 0 then some ((-1 : Int32), r12.2) else if x2 = (2 : Int32) then some ((r12.2 101 7), r12.2) else some ((r12.2 101 8), r12.2)) = R → p_X11_holds I x1 x2 = R := fun R hR => by
        unfold p_X11_holds
        rw [gB_y _ (x7_has I b1'' b1 _) c1, if_neg (by decide), if_neg n1, if_pos n2, e, gB_v, kn.1.2.1.2.1, b2, kn.1.2.1.2.2.1, e8, gB_v, kn8.1.2.1.2.1, b2]
        exact hR
      have ref : ∀ M, gkeep I M → ∀ R, (if (2 : Int32) ≤ x2 then gB (p_X12_livingOf M x1) fun r9 => gB (p_X12_sizeOf r9) fun r11 => if r11 ≤ (8 : Int32) then p_X12_holds_138 x1 x2 (nI (gCt (hld I x1) nS)) (nI (ptsH I x1 nS)) r9 gFu M (-1 : Int64) (0 : Int32) (0 : Int32) (1 : Int32) else some ((-1 : Int32), M) else if x2 = 0 then some (nI (gCt (hld I x1) nS), M) else some (nI (ptsH I x1 nS), M)) = R → p_X12_holds M x1 x2 = R := fun M kM R hR => by
        unfold p_X12_holds
        rw [gB_y _ (x12_isPerson M b1'' (m3 M kM) _) c1, if_neg (by decide), lies_y _ (by simp only [i32_toInt64, Int64.reduceToInt]; omega), if_neg (by decide)]
        exact x12_h30 h kM x1 x2 R hR nS gFu 0 (by omega) (by unfold gFu; omega)
      by_cases d0 : x2 = 0
      · refine ⟨(r8 101 4, r8), cls _ (by rw [if_pos d0]), (nI (gCt (hld I x1) nS), r8), ref r8 kn8.1 _ (by rw [if_neg (by rw [d0]; decide), if_pos d0]), ?_, gInv_k kn8.1 hI⟩
        exact g8.1
      · by_cases d1 : x2 = 1
        · refine ⟨(r8 101 5, r8), cls _ (by rw [if_neg d0, if_pos d1]), (nI (ptsH I x1 nS), r8), ref r8 kn8.1 _ (by rw [if_neg (by rw [d1]; decide), if_neg d0]), ?_, gInv_k kn8.1 hI⟩
          exact g8.2.1
        · have d2 : (2 : Int32) ≤ x2 := by
            rw [Int32.le_iff_toInt_le]
            have q0 : ¬ x2.toInt = 0 := fun q => d0 (Int32.toInt_inj.mp q)
            have q1 : ¬ x2.toInt = 1 := fun q => d1 (Int32.toInt_inj.mp q)
            simp only [Int32.reduceToInt]
            omega
          obtain ⟨D, hD, eD⟩ := x4_doubt h x1 kn8 g8
          have hl := gpc_le 16 D
          by_cases c8 : gpc 16 D ≤ 8
          · have pm : 2 ^ gpc 16 D ≤ 256 := show 2 ^ gpc 16 D ≤ 2 ^ 8 from Nat.pow_le_pow_right (by omega) c8
            obtain ⟨r9, e9, k9, q7, q8⟩ := x4_worst h x1 hD.1 c8 (2 ^ gpc 16 D) gFu 0 (gu2 (gu2 r8 101 7 0) 101 8 0) (by omega) (by unfold gFu; omega) (knw_w (knw_w kn8 (gf101 _) (by decide) (by decide)) (gf101 _) (by decide) (by decide)) (gS_67 rfl rfl rfl rfl g8) (by rw [gu_sl, if_neg (by decide), gu_sl, if_pos rfl]; rfl) (by rw [gu_sl, if_pos rfl]; rfl)
            rw [dep_0] at e9
            have ew : p_X4_reckonWorst r8 (nI ns) = some (1, r9) := by
              unfold p_X4_reckonWorst
              rw [eD, gB_v, bitCount hD.1, gB_v, if_pos (show nI (gpc 16 D) ≤ (8 : Int32) from nI_le (b := 8) c8 (by omega)), gL_b, gL_b]
              exact e9
            obtain ⟨D', hD', eD'⟩ := x12_living h k9 x1
            have := dbS_u hD' hD
            subst this
            obtain ⟨M', e10, k10⟩ := x12_worst h x1 x2 (nI (gCt (hld I x1) nS)) (nI (ptsH I x1 nS)) hD.1 rfl c8 (2 ^ gpc 16 D') gFu 0 r9 (by omega) (by unfold gFu; omega) k9
            have p0 : 0 < 2 ^ gpc 16 D' := Nat.two_pow_pos _
            rw [dep_0, if_neg (by omega)] at e10
            refine ⟨((if x2 = 2 then nI (wsp I P nS x1 D' (2 ^ gpc 16 D')).1 else nI (wsp I P nS x1 D' (2 ^ gpc 16 D')).2), r9), cls _ ?_, ((if x2 = 2 then nI (wsp I P nS x1 D' (2 ^ gpc 16 D')).1 else nI (wsp I P nS x1 D' (2 ^ gpc 16 D')).2), M'), ref r9 k9 _ ?_, rfl, gInv_k k10 hI⟩
            · rw [if_neg d0, if_neg d1, ew, gB_v]
              dsimp only
              rw [if_neg (by decide), q7, q8]
              by_cases c : x2 = 2
              · rw [if_pos c, if_pos c]
              · rw [if_neg c, if_neg c]
            · rw [if_pos d2, eD', gB_v, x12_sizeOf hD.1, gB_v, if_pos (show nI (gpc 16 D') ≤ (8 : Int32) from nI_le (b := 8) c8 (by omega))]
              exact e10
          · have ew : p_X4_reckonWorst r8 (nI ns) = some (0, r8) := by
              unfold p_X4_reckonWorst
              rw [eD, gB_v, bitCount hD.1, gB_v, if_neg (show ¬ nI (gpc 16 D) ≤ (8 : Int32) from nI_ge (a := 8) (by omega) (by omega))]
            obtain ⟨D', hD', eD'⟩ := x12_living h kn8.1 x1
            have := dbS_u hD' hD
            subst this
            refine ⟨(-1, r8), cls _ ?_, (-1, r8), ref r8 kn8.1 _ ?_, rfl, gInv_k kn8.1 hI⟩
            · rw [if_neg d0, if_neg d1, ew, gB_v]
              rfl
            · rw [if_pos d2, eD', gB_v, x12_sizeOf hD.1, gB_v, if_neg (show ¬ nI (gpc 16 D') ≤ (8 : Int32) from nI_ge (a := 8) (by omega) (by omega))]
    · refine ⟨(-1, I), ?_, (-1, I), ?_, rfl, hI⟩
      · unfold p_X11_holds
        rw [gB_y _ (x7_has I b1'' b1 _) c1, if_neg (by decide)]
        simp only [Int32.lt_iff_toInt_lt, Int32.le_iff_toInt_le, Int32.reduceToInt]
        by_cases d : x2.toInt < 0
        · rw [if_pos d]
        · rw [if_neg d, if_neg (by omega)]
      · show p_X12_holds I x1 x2 = _
        unfold p_X12_holds
        rw [gB_y _ (x12_isPerson I b1'' b1' _) c1, if_neg (by decide), lies_n _ (by simp only [i32_toInt64, Int64.reduceToInt]; omega), if_pos rfl]
  · refine ⟨(-1, I), ?_, (-1, I), ?_, rfl, hI⟩
    · unfold p_X11_holds
      rw [gB_n _ (x7_has I b1'' b1 _) c1, if_pos rfl]
    · show p_X12_holds I x1 x2 = _
      unfold p_X12_holds
      rw [gB_n _ (x12_isPerson I b1'' b1' _) c1, if_pos rfl]
