/-! ===== falls, gain ===== -/
def ctx (I : gIt) (P : Nat) : Prop := P ≤ 16 ∧ I 1 7 = nI P ∧ I 149 3 = nI P ∧ (∀ o, o < P → iPer1 I o) ∧ (I 0 14).toInt ≤ 1999 ∧ I 149 2 = I 0 14
theorem ctx_k {I I' : gIt} {P : Nat} (h : gkeep I I') (c : ctx I P) : ctx I' P := by
  obtain ⟨c1, c2, c3, c4, c5, c6⟩ := c
  obtain ⟨-, ⟨-, -, b3, -, b5, -⟩, -, -, d2, d3, -⟩ := id h
  exact ⟨c1, b5.trans c2, d3.trans c3, fun o ho => by rw [iPer1_k h]; exact c4 o ho, by rw [b3]; exact c5, by rw [d2, b3]; exact c6⟩
theorem or0 (m : Nat) : nI m ||| (0 : Int32) = nI m := by show _ ||| nI 0 = _; rw [nI_or, Nat.or_zero]
theorem nmS_thr {I : gIt} {P : Nat} {t : Int32} {s o : Nat} (ho : o < 16) (h : (nmS I P t s).testBit o = true) : thr I P t o = true := by
  unfold nmS at h
  rw [gM_tb16 _ ho, NMb_iff] at h
  rcases h.2 with z | ⟨q, hq, z1, z2⟩
  · exact z.2
  · unfold chd at z2
    rw [Bool.and_eq_true] at z2
    exact z2.1
theorem nmS_alv {I : gIt} {P : Nat} {t : Int32} {s : Nat} (B : Nat) : alv I P t (B &&& nmS I P t s) := ⟨Nat.lt_of_le_of_lt Nat.and_le_right (nmS_lt I P t s), fun o ho h => nmS_thr ho (tb_and.mp h).2⟩
theorem alv_k {I I' : gIt} {P : Nat} {t : Int32} {A : Nat} (h : gkeep I I') (a : alv I P t A) : alv I' P t A := ⟨a.1, fun o ho q => by
  have := a.2 o ho q
  unfold thr at this ⊢
  rw [h.1 4 (by unfold gco; omega)]
  exact this⟩
theorem al_or (x : Int32) {P : Nat} (hP : P ≤ 16) : (∃ n, n < 65536 ∧ x = nI n ∧ gushr x (nI P) = 0 ∧ (0 ≤ x.toInt ∧ x.toInt ≤ (gshl 1 (nI P) - 1).toInt)) ∨ (¬ gushr x (nI P) = 0 ∧ ¬ (0 ≤ x.toInt ∧ x.toInt ≤ (gshl 1 (nI P) - 1).toInt)) := by
  obtain ⟨n, hn, rfl⟩ := nI_all x
  have hp : 2 ^ P ≤ 65536 := show 2 ^ P ≤ 2 ^ 16 from Nat.pow_le_pow_right (by omega) hP
  have h1 : 1 ≤ 2 ^ P := Nat.one_le_two_pow
  have e1 : gshl 1 (nI P) - 1 = nI (2 ^ P - 1) := by rw [shl1 (by omega)]; exact pk_sub (b := 1) h1
  have e2 : gushr (nI n) (nI P) = nI (n / 2 ^ P) := by unfold gushr; exact pk_ushrN hn _ P (sm_u P (by omega))
  rw [e1, e2, nI_toInt (n := 2 ^ P - 1) (by omega)]
  by_cases c : n < 2 ^ P
  · left
    refine ⟨n, by omega, rfl, by rw [Nat.div_eq_of_lt c]; rfl, ?_⟩
    rw [nI_toInt (by omega)]
    omega
  · right
    have hd : 0 < n / 2 ^ P := Nat.div_pos (by omega) (by omega)
    refine ⟨fun q => ?_, fun q => ?_⟩
    · have q2 : nI (n / 2 ^ P) = nI 0 := q
      rw [nI_inj (Nat.lt_of_le_of_lt (Nat.div_le_self _ _) hn) (by omega)] at q2
      omega
    · by_cases c2 : n < 2 ^ 31
      · rw [nI_toInt c2] at q
        omega
      · have t : (nI n).toBitVec.toInt < 0 := by
          rw [BitVec.toInt_eq_toNat_cond, pk_tn hn, if_neg (by omega)]
          omega
        have t' : (nI n).toInt = (nI n).toBitVec.toInt := rfl
        rw [t'] at q
        omega
theorem EE10 : EE_10 gInv := by
  intro I J w x1 x2 x3 hI
  obtain ⟨P, ns, nS, nC, nP, nT, hs, hr⟩ := id hI
  obtain ⟨⟨y1, y2, y3⟩, ⟨b1, b1', b1''⟩, ⟨b2, b2', b2''⟩, -⟩ := id hs
  have cx : ctx I P := ⟨b1'', b1, b1', hr.1, y3, y1⟩
  by_cases c1 : 0 ≤ x1.toInt ∧ x1.toInt < ns
  · obtain ⟨s, -, rfl, ts⟩ := i_of c1.1
    have hs10 : s < 10 := by omega
    have hset := hr.2.2.2.2.2.2.2.1 s (by omega)
    by_cases c3 : 0 ≤ x3.toInt ∧ x3.toInt < P
    · obtain ⟨o, -, rfl, to⟩ := i_of c3.1
      rcases al_or x2 b1'' with ⟨n, hn, rfl, a1, a2⟩ | ⟨a1, a2⟩
      · obtain ⟨r, e, l⟩ := x5_learn b1'' b1 hr.1 (I 0 14)
        have hal := nmS_alv (I := I) (P := P) (t := I 0 14) (s := s) n
        obtain ⟨r2, e2, d2, g2⟩ := x3_divide (lrn_knw l) hal hr.1 y3 hs10 hset
        have k2 : gkeep I r2 := gkeep_tr (lrn_keep l) (fr67_keep g2)
        have cx2 := ctx_k k2 cx
        have hset2 : iSet1 r2 P s := by rw [iSet1_k k2 P s hs10]; exact hset
        obtain ⟨M, e3, m3, f3⟩ := x12_lets cx2.1 cx2.2.2.1 cx2.2.2.2.1 (alv_k k2 hal) hs10 hset2
        have f4 : r2 149 4 = nI ns := by rw [k2.2.2.2.2.2.2.1]; exact b2'
        have f2 : r2 149 2 = I 0 14 := by rw [k2.2.2.2.2.1]; exact y1
        refine ⟨(nI ((fallOf I P (n &&& nmS I P (I 0 14) s) s).1 o), r2), ?_, (nI ((fallOf I P (n &&& nmS I P (I 0 14) s) s).1 o), M), ?_, rfl, gInv_k (gkeep_tr k2 (frL_keep f3)) hI⟩
        · unfold p_X11_falls
          rw [x11_settlementOf b2'' b2, if_pos c1, nI_clamp (by omega)]
          show gB (p_X7_has I (nI o)) _ = _
          rw [gB_y _ (x7_has I b1'' b1 _) c3, if_neg (by decide), b1, if_pos a1, e, gB_v, x5_namedIn b1'' (lrn_knw l) hs10 hset, gB_v, nI_and, e2, gB_v, x3_givenTo d2 (by omega), gB_v]
        · show p_X12_falls r2 (nI s) (nI n) (nI o) = _
          unfold p_X12_falls
          rw [gB_y _ (x12_isSettlement r2 b2'' f4 _) c1, if_neg (by decide), gB_y _ (x12_isPerson r2 b1'' cx2.2.2.1 _) c3, if_neg (by decide), cx2.2.2.1, lies_y _ (by simp only [i32_toInt64, Int64.reduceToInt]; exact a2), if_neg (by decide), f2, x12_namedSet cx2.1 cx2.2.2.1 cx2.2.2.2.1 _ hs10 hset2, nmS_k k2 hs10, gB_v, nI_and, e3, gB_v, gck_t (gin_nI (by omega) (by omega)), nI_clamp (by omega), m3.2 o (by omega), fallOf_k k2 hs10]
      · refine ⟨(-1, I), ?_, (-1, I), ?_, rfl, hI⟩
        · unfold p_X11_falls
          rw [x11_settlementOf b2'' b2, if_pos c1]
          show gB (p_X7_has I (nI o)) _ = _
          rw [gB_y _ (x7_has I b1'' b1 _) c3, if_neg (by decide), b1, if_neg a1]
        · show p_X12_falls I (nI s) x2 (nI o) = _
          unfold p_X12_falls
          rw [gB_y _ (x12_isSettlement I b2'' b2' _) c1, if_neg (by decide), gB_y _ (x12_isPerson I b1'' b1' _) c3, if_neg (by decide), b1', lies_n _ (by simp only [i32_toInt64, Int64.reduceToInt]; exact a2), if_pos rfl]
    · refine ⟨(-1, I), ?_, (-1, I), ?_, rfl, hI⟩
      · unfold p_X11_falls
        rw [x11_settlementOf b2'' b2, if_pos c1]
        show gB (p_X7_has I x3) _ = _
        rw [gB_n _ (x7_has I b1'' b1 _) c3, if_pos rfl]
      · show p_X12_falls I (nI s) x2 x3 = _
        unfold p_X12_falls
        rw [gB_y _ (x12_isSettlement I b2'' b2' _) c1, if_neg (by decide), gB_n _ (x12_isPerson I b1'' b1' _) c3, if_pos rfl]
  · refine ⟨(-1, I), ?_, (-1, I), ?_, rfl, hI⟩
    · unfold p_X11_falls
      rw [x11_settlementOf b2'' b2, if_neg c1]
      rfl
    · show p_X12_falls I x1 x2 x3 = _
      unfold p_X12_falls
      rw [gB_n _ (x12_isSettlement I b2'' b2' _) c1, if_pos rfl]
/-- who outlives the year y, as known on t -/
def sv (I : gIt) (t y : Int32) (o : Nat) : Bool := decide ((I 2 o).toInt ≤ y.toInt) && (!(ded I t o) || decide (y.toInt < (I 5 o).toInt))
theorem x7_surv {I : gIt} {P : Nat} (hP : P ≤ 16) (h : I 1 7 = nI P) (t y : Int32) : ∀ (d f k : Nat), k + d = P → d < f → p_X7_survivorsOf_5 I y t f (nI (gM (sv I t y) k)) (nI k) = some (nI (gM (sv I t y) P)) := by
  intro d
  induction d with
  | zero =>
    intro f k hk hf
    obtain ⟨f, rfl⟩ : ∃ q, f = q + 1 := ⟨f - 1, by omega⟩
    unfold p_X7_survivorsOf_5
    rw [h, if_pos (nI_le (by omega) (by omega)), show k = P by omega]
  | succ d ih =>
    intro f k hk hf
    obtain ⟨f, rfl⟩ : ∃ q, f = q + 1 := ⟨f - 1, by omega⟩
    have g : gin (nI k) 16 = true := gin_nI (by omega) (by omega)
    have nx := ih f (k + 1) (by omega) (by omega)
    unfold p_X7_survivorsOf_5
    rw [h, if_neg (nI_ge (by omega) (by omega)), if_neg (show ¬ (16 : Int32) ≤ nI k from nI_ge (b := 16) (by omega) (by omega)), x7_kd I hP h (by omega) t, gB_v]
    simp only [gck_t g, gL_b, nI_1, shl1 (show k < 32 by omega), nI_or, nI_clamp (show k < 2 ^ 31 by omega), Int32.lt_iff_toInt_lt, Int32.le_iff_toInt_le]
    by_cases c2 : y.toInt < (I 2 k).toInt
    · have : ¬ sv I t y k = true := by unfold sv; rw [decide_eq_false (by omega)]; simp
      rw [gM_s0 _ this]
      by_cases c1 : ¬ I 5 k = -1 ∧ (I 6 k).toInt ≤ t.toInt
      · rw [if_pos c1, if_neg (by decide)]
        by_cases c3 : (I 5 k).toInt ≤ y.toInt
        · rw [if_pos c3, gB_v, if_pos c2]; exact nx
        · rw [if_neg c3, gB_v, if_pos c2]; exact nx
      · rw [if_neg c1, if_pos rfl, gB_v, if_pos c2]; exact nx
    · by_cases c1 : ¬ I 5 k = -1 ∧ (I 6 k).toInt ≤ t.toInt
      · rw [if_pos c1, if_neg (by decide)]
        by_cases c3 : (I 5 k).toInt ≤ y.toInt
        · have : ¬ sv I t y k = true := by unfold sv ded; rw [decide_eq_true c1, decide_eq_false (show ¬ y.toInt < (I 5 k).toInt by omega)]; simp
          rw [if_pos c3, gB_v, if_neg c2, if_pos rfl, gM_s0 _ this]; exact nx
        · have : sv I t y k = true := by unfold sv; rw [decide_eq_true (show (I 2 k).toInt ≤ y.toInt by omega), decide_eq_true (show y.toInt < (I 5 k).toInt by omega)]; simp
          rw [if_neg c3, gB_v, if_neg c2, if_neg (by decide), gM_s1 _ this]; exact nx
      · have : sv I t y k = true := by unfold sv ded; rw [decide_eq_true (show (I 2 k).toInt ≤ y.toInt by omega), decide_eq_false c1]; simp
        rw [if_neg c1, if_pos rfl, gB_v, if_neg c2, if_neg (by decide), gM_s1 _ this]; exact nx
theorem x12_aliveAt_26 {I : gIt} {P S : Nat} (c : ctx I P) (hS : S < 65536) (x1 t y : Int32) : ∀ (d f k : Nat), k + d = P → d < f → p_X12_aliveAt_26 I x1 t (nI S) y f (nI (gM (fun o => S.testBit o && sv I t y o) k)) (nI k) = some (nI (gM (fun o => S.testBit o && sv I t y o) P)) := by
  intro d
  obtain ⟨hP, -, h3, hp, -⟩ := c
  induction d with
  | zero =>
    intro f k hk hf
    obtain ⟨f, rfl⟩ : ∃ q, f = q + 1 := ⟨f - 1, by omega⟩
    unfold p_X12_aliveAt_26
    rw [h3, if_pos (nI_le (by omega) (by omega)), show k = P by omega]
  | succ d ih =>
    intro f k hk hf
    obtain ⟨f, rfl⟩ : ∃ q, f = q + 1 := ⟨f - 1, by omega⟩
    have g : gin (nI k) 16 = true := gin_nI (by omega) (by omega)
    have nx := ih f (k + 1) (by omega) (by omega)
    obtain ⟨⟨i1, i2, i3, i4⟩, -⟩ := hp k (by omega)
    unfold p_X12_aliveAt_26
    rw [h3, if_neg (nI_ge (by omega) (by omega)), x12_has (by omega) (by omega), gB_v, x12_kd I (by omega) (iPer_kd (hp k (by omega))) t, gB_v]
    simp only [gck_t g, gL_b, nI_1, shl1 (show k < 32 by omega), nI_or, or0, nI_clamp (show k < 2 ^ 31 by omega), Int32.lt_iff_toInt_lt, Int32.le_iff_toInt_le, i1, i4]
    by_cases cS : S.testBit k = true
    · have cs' : (if S.testBit k then (1 : Int32) else 0) = 1 := if_pos cS
      rw [cs', if_neg (by decide)]
      by_cases c2 : y.toInt < (I 2 k).toInt
      · have : ¬ (fun o => S.testBit o && sv I t y o) k = true := by dsimp only; unfold sv; rw [decide_eq_false (show ¬ (I 2 k).toInt ≤ y.toInt by omega)]; simp
        rw [if_pos c2, gM_s0 _ this]; exact nx
      · rw [if_neg c2]
        by_cases c1 : ¬ I 5 k = -1 ∧ (I 6 k).toInt ≤ t.toInt
        · rw [if_pos c1, if_neg (by decide)]
          by_cases c3 : (I 5 k).toInt ≤ y.toInt
          · have : ¬ (fun o => S.testBit o && sv I t y o) k = true := by dsimp only; unfold sv ded; rw [decide_eq_true c1, decide_eq_false (show ¬ y.toInt < (I 5 k).toInt by omega)]; simp
            rw [if_pos c3, gM_s0 _ this]; exact nx
          · have : (fun o => S.testBit o && sv I t y o) k = true := by dsimp only; unfold sv; rw [cS, decide_eq_true (show (I 2 k).toInt ≤ y.toInt by omega), decide_eq_true (show y.toInt < (I 5 k).toInt by omega)]; simp
            rw [if_neg c3, gM_s1 _ this]; exact nx
        · have : (fun o => S.testBit o && sv I t y o) k = true := by dsimp only; unfold sv ded; rw [cS, decide_eq_true (show (I 2 k).toInt ≤ y.toInt by omega), decide_eq_false c1]; simp
          rw [if_neg c1, if_pos rfl, gM_s1 _ this]; exact nx
    · have cs' : (if S.testBit k then (1 : Int32) else 0) = 0 := if_neg cS
      have : ¬ (fun o => S.testBit o && sv I t y o) k = true := by dsimp only; rw [Bool.and_eq_true]; exact fun q => cS q.1
      rw [cs', if_pos rfl, gM_s0 _ this]; exact nx
theorem sv_and {I : gIt} {P S : Nat} {t y : Int32} (hP : P ≤ 16) (hS : S < 65536) : gM (sv I t y) P &&& S = gM (fun o => S.testBit o && sv I t y o) P := by
  apply tb_ext (n := 16) (Nat.lt_of_le_of_lt Nat.and_le_right hS) (Nat.lt_of_lt_of_le (gM_lt _ _) (Nat.pow_le_pow_right (by omega) hP))
  intro k hk
  rw [Nat.testBit_and, gM_tb, gM_tb]
  cases decide (k < P) <;> cases S.testBit k <;> simp
theorem x11_isYear (x : Int32) : p_X11_isYear x = some (if 1700 ≤ x.toInt ∧ x.toInt ≤ 1999 then 1 else 0) := by
  unfold p_X11_isYear
  simp only [Int32.lt_iff_toInt_lt, Int32.reduceToInt]
  by_cases c1 : x.toInt < 1700
  · rw [if_pos c1, if_neg (by omega)]
  · rw [if_neg c1]
    by_cases c2 : 1999 < x.toInt
    · rw [if_pos c2, if_neg (by omega)]
    · rw [if_neg c2, if_pos (by omega)]
theorem x12_isYear (x : Int32) : p_X12_isYear x = some (if 1700 ≤ x.toInt ∧ x.toInt ≤ 1999 then 1 else 0) := by
  unfold p_X12_isYear
  rw [x12_lies, i32_toInt64]
  show gck (gbo _) _ = _
  rw [gck_t (gbo_ite _)]
  rfl
theorem gain_both {I : gIt} {J : gJt} {w : Bool} (hI : gInv I J w) (x1 x2 x3 : Int32) : ∃ v r M, p_X11_gainOf I x1 x2 x3 = some (v, r) ∧ p_X12_gain r x1 x2 x3 = some (v, M) ∧ gkeep I r ∧ gkeep I M ∧ (v = -1 ∨ ∃ s o g, x1 = nI s ∧ x2 = nI o ∧ s < 10 ∧ o < 16 ∧ v = nI g ∧ g ≤ 100000 ∧ ∃ T, T < 16 ∧ I (14 + 6 * s) 6 = nI T ∧ ¬ I 5 T = -1 ∧ (I 6 T).toInt ≤ x3.toInt) := by
  obtain ⟨P, ns, nS, nC, nP, nT, hs, hr⟩ := id hI
  obtain ⟨⟨y1, y2, y3⟩, ⟨b1, b1', b1''⟩, ⟨b2, b2', b2''⟩, -⟩ := id hs
  have cx : ctx I P := ⟨b1'', b1, b1', hr.1, y3, y1⟩
  by_cases c1 : 0 ≤ x1.toInt ∧ x1.toInt < ns
  · obtain ⟨s, -, rfl, ts⟩ := i_of c1.1
    have hs10 : s < 10 := by omega
    have hset := hr.2.2.2.2.2.2.2.1 s (by omega)
    obtain ⟨⟨-, fu1, fu2⟩, ⟨e158, T, hT, eT⟩, -⟩ := id hset
    by_cases c2 : 0 ≤ x2.toInt ∧ x2.toInt < P
    · obtain ⟨o, -, rfl, to⟩ := i_of c2.1
      by_cases c3 : 1700 ≤ x3.toInt ∧ x3.toInt ≤ 1999
      · by_cases c4 : ¬ I 5 T = -1 ∧ (I 6 T).toInt ≤ x3.toInt
        · obtain ⟨r, e, l⟩ := x5_learn b1'' b1 hr.1 x3
          have k1 := lrn_keep l
          have hal := nmS_alv (I := I) (P := P) (t := x3) (s := s) (gM (sv I x3 (I 5 T)) P)
          obtain ⟨r2, e2, d2, g2⟩ := x3_divide (lrn_knw l) hal hr.1 y3 hs10 hset
          have k2 : gkeep I r2 := gkeep_tr k1 (fr67_keep g2)
          have cx2 := ctx_k k2 cx
          have hset2 : iSet1 r2 P s := by rw [iSet1_k k2 P s hs10]; exact hset
          obtain ⟨M, e3, m3, f3⟩ := x12_lets cx2.1 cx2.2.2.1 cx2.2.2.2.1 (alv_k k2 hal) hs10 hset2
          have f4 : r2 149 4 = nI ns := by rw [k2.2.2.2.2.2.2.1]; exact b2'
          have s1 : ∀ r', gkeep I r' → sv r' x3 (I 5 T) = sv I x3 (I 5 T) := fun r' hk => by
            funext o'
            unfold sv ded
            rw [hk.1 2 (by unfold gco; omega), hk.1 5 (by unfold gco; omega), hk.1 6 (by unfold gco; omega)]
          refine ⟨nI ((fallOf I P (gM (sv I x3 (I 5 T)) P &&& nmS I P x3 s) s).1 o), r2, M, ?_, ?_, k2, gkeep_tr k2 (frL_keep f3), Or.inr ⟨s, o, _, rfl, rfl, hs10, by omega, rfl, ?_, T, by omega, eT, c4⟩⟩
          · unfold p_X11_gainOf
            rw [x11_settlementOf b2'' b2, if_pos c1, nI_clamp (by omega)]
            show gB (p_X7_has I (nI o)) _ = _
            rw [gB_y _ (x7_has I b1'' b1 _) c2, if_neg (by decide), gB_y _ (x11_isYear x3) c3, if_neg (by decide), eT, gL_b, gB_y _ (x7_has I b1'' b1 _) (in_y hT (by omega)), if_neg (by decide), gB_y _ (x7_kd I b1'' b1 hT x3) c4, if_neg (by decide), e, gB_v, gck_t (gin_nI (by omega) (by omega)), nI_clamp (by omega), k1.1 5 (by unfold gco; omega)]
            have sx := x7_surv b1'' (show r 1 7 = nI P by rw [k1.2.1.2.2.2.2.1]; exact b1) x3 (I 5 T) P gFu 0 (by omega) (by unfold gFu; omega)
            rw [s1 r k1] at sx
            unfold p_X7_survivorsOf
            rw [show p_X7_survivorsOf_5 r (I 5 T) x3 gFu 0 0 = _ from sx, gB_v, x5_namedIn b1'' (lrn_knw l) hs10 hset, gB_v, nI_and, e2, gB_v, x3_givenTo d2 (by omega), gB_v]
          · unfold p_X12_gain
            have f158 : r2 158 s = nI T := by rw [k2.1 158 (by unfold gco; omega), e158, eT]
            have pT := cx2.2.2.2.1 T hT
            have kT : ¬ r2 5 T = -1 ∧ (r2 6 T).toInt ≤ x3.toInt := by rw [k2.1 5 (by unfold gco; omega), k2.1 6 (by unfold gco; omega)]; exact c4
            have tT : thr r2 P x3 T = true := by
              unfold thr
              rw [decide_eq_true_eq]
              refine ⟨hT, ?_⟩
              rcases pT.2.2.2 with z | z
              · exact absurd z kT.1
              · have := kT.2
                omega
            have hf : p_X12_hasFallen r2 (nI s) x3 = some 1 := by
              unfold p_X12_hasFallen
              rw [gck_t (gin_nI (by omega) (by omega)), nI_clamp (by omega), f158, x12_isThere cx2.1 cx2.2.2.1 cx2.2.2.2.1 x3 (by omega), tT, gB_v, if_pos rfl, if_neg (by decide), gck_t (gin_nI (by omega) (by omega)), x12_kd r2 (by omega) (iPer_kd pT) x3, if_pos kT, gB_v, if_neg (by decide)]
            have ha : p_X12_aliveAt r2 (nI s) x3 = some (nI (gM (sv I x3 (I 5 T)) P &&& nmS I P x3 s)) := by
              unfold p_X12_aliveAt
              rw [x12_namedSet cx2.1 cx2.2.2.1 cx2.2.2.2.1 _ hs10 hset2, nmS_k k2 hs10, gB_v, gck_t (gin_nI (by omega) (by omega)), nI_clamp (by omega), f158, gck_t (gin_nI (by omega) (by omega)), nI_clamp (by omega), (iPer_kd pT).1, k2.1 5 (by unfold gco; omega), gL_b]
              have ax := x12_aliveAt_26 cx2 (nmS_lt I P x3 s) (nI s) x3 (I 5 T) P gFu 0 (by omega) (by unfold gFu; omega)
              rw [s1 r2 k2, ← sv_and b1'' (nmS_lt I P x3 s)] at ax
              exact ax
            rw [gB_y _ (x12_isSettlement r2 b2'' f4 _) c1, if_neg (by decide), gB_y _ (x12_isPerson r2 b1'' cx2.2.2.1 _) c2, if_neg (by decide), gB_y _ (x12_isYear x3) c3, if_neg (by decide), hf, gB_v, if_neg (by decide), ha, gB_v, e3, gB_v, gck_t (gin_nI (by omega) (by omega)), nI_clamp (by omega), m3.2 o (by omega), fallOf_k k2 hs10]
          · have := fallOf_bd I P (gM (sv I x3 (I 5 T)) P &&& nmS I P x3 s) s o
            obtain ⟨F, -, eF, tF⟩ := i_of (x := I (14 + 6 * s) 5) (by omega)
            rw [eF, nI_clamp (by omega)] at this
            omega
        · refine ⟨-1, I, I, ?_, ?_, gkeep_rf I, gkeep_rf I, Or.inl rfl⟩
          · unfold p_X11_gainOf
            rw [x11_settlementOf b2'' b2, if_pos c1, nI_clamp (by omega)]
            show gB (p_X7_has I (nI o)) _ = _
            rw [gB_y _ (x7_has I b1'' b1 _) c2, if_neg (by decide), gB_y _ (x11_isYear x3) c3, if_neg (by decide), eT, gL_b, gB_y _ (x7_has I b1'' b1 _) (in_y hT (by omega)), if_neg (by decide), gB_n _ (x7_kd I b1'' b1 hT x3) c4, if_pos rfl]
          · unfold p_X12_gain
            have hf : p_X12_hasFallen I (nI s) x3 = some 0 := by
              unfold p_X12_hasFallen
              rw [gck_t (gin_nI (by omega) (by omega)), nI_clamp (by omega), e158, eT, x12_isThere cx.1 cx.2.2.1 cx.2.2.2.1 x3 (by omega), gB_v, gck_t (gin_nI (by omega) (by omega)), x12_kd I (by omega) (iPer_kd (hr.1 T hT)) x3, if_neg c4, gB_v]
              cases thr I P x3 T <;> rfl
            rw [gB_y _ (x12_isSettlement I b2'' b2' _) c1, if_neg (by decide), gB_y _ (x12_isPerson I b1'' b1' _) c2, if_neg (by decide), gB_y _ (x12_isYear x3) c3, if_neg (by decide), hf, gB_v, if_pos rfl]
      · refine ⟨-1, I, I, ?_, ?_, gkeep_rf I, gkeep_rf I, Or.inl rfl⟩
        · unfold p_X11_gainOf
          rw [x11_settlementOf b2'' b2, if_pos c1]
          show gB (p_X7_has I (nI o)) _ = _
          rw [gB_y _ (x7_has I b1'' b1 _) c2, if_neg (by decide), gB_n _ (x11_isYear x3) c3, if_pos rfl]
        · unfold p_X12_gain
          rw [gB_y _ (x12_isSettlement I b2'' b2' _) c1, if_neg (by decide), gB_y _ (x12_isPerson I b1'' b1' _) c2, if_neg (by decide), gB_n _ (x12_isYear x3) c3, if_pos rfl]
    · refine ⟨-1, I, I, ?_, ?_, gkeep_rf I, gkeep_rf I, Or.inl rfl⟩
      · unfold p_X11_gainOf
        rw [x11_settlementOf b2'' b2, if_pos c1]
        show gB (p_X7_has I x2) _ = _
        rw [gB_n _ (x7_has I b1'' b1 _) c2, if_pos rfl]
      · unfold p_X12_gain
        rw [gB_y _ (x12_isSettlement I b2'' b2' _) c1, if_neg (by decide), gB_n _ (x12_isPerson I b1'' b1' _) c2, if_pos rfl]
  · refine ⟨-1, I, I, ?_, ?_, gkeep_rf I, gkeep_rf I, Or.inl rfl⟩
    · unfold p_X11_gainOf
      rw [x11_settlementOf b2'' b2, if_neg c1]
      rfl
    · unfold p_X12_gain
      rw [gB_n _ (x12_isSettlement I b2'' b2' _) c1, if_pos rfl]
theorem EE21 : EE_21 gInv := by
  intro I J w x1 x2 x3 hI
  obtain ⟨v, r, M, e1, e2, k1, k2, -⟩ := gain_both hI x1 x2 x3
  refine ⟨(v, r), ?_, (v, M), e2, rfl, gInv_k k2 hI⟩
  unfold p_X11_gain
  rw [e1, gB_v]
