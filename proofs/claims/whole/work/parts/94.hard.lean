/-! ===== hard, undo, least ===== -/
theorem actC_k {I I' : gIt} (h : gkeep I I') (w : Bool) (g0 g1 g2 g3 p : Int64) : actC I' (gact w) g0 g1 g2 g3 p = actC I (gact w) g0 g1 g2 g3 p := by
  obtain ⟨e, -, ⟨c1, c2, c3, c4, c5, c6⟩, -⟩ := h
  cases w
  · show actC I' 103 g0 g1 g2 g3 p = actC I 103 g0 g1 g2 g3 p
    unfold actC
    rw [c1, c2, c3, e (103 + 1) (by unfold gco; omega)]
  · show actC I' 126 g0 g1 g2 g3 p = actC I 126 g0 g1 g2 g3 p
    unfold actC
    rw [c4, c5, c6, e (126 + 1) (by unfold gco; omega)]
theorem gact_or (w : Bool) : gact w = 103 ∨ gact w = 126 := by cases w; exact Or.inl rfl; exact Or.inr rfl
def hrd (I : gIt) (w : Bool) (P s tb T o i : Nat) (y parts adv : Int32) (p : Int64) : Prop := ¬ I 0 12 = 0 ∧ rkG I P y y s tb T ∧ actC I (gact w) (worV I P y y s tb T o i 110 * Int32.toInt64 parts / 1000) (Int32.toInt64 (y - I 2 o)) (if adv = 0 then 0 else 1) (Int32.toInt64 parts) p = true
section Hr
variable {I : gIt} {P : Nat} {y : Int32} {s tb T o i : Nat} {w : Bool}
theorem x11_weighs (h : rkH I P y y s tb T) (ho : o < P) (hi : i ≤ 20) (ei : I 9 1 = nI i) (ha : I 0 12 = 0 ∨ (I 0 12 = 1 ∧ iAct1 I (gact w))) (J : gJt) (x3 x4 : Int32) : ∃ v r J1, p_X11_weighs I J w (14 + 6 * s) (nI o) x3 x4 y = some (v, r, J1) ∧ gkeep I r ∧ ((v = 0 ∧ ∀ p, ¬ hrd I w P s tb T o i y x3 x4 p) ∨ (v = 1 ∧ (¬ I 0 12 = 0 ∧ rkG I P y y s tb T) ∧ ∀ p, ∃ b : Bool, p_X0_condemns r J1 (gact w) p = some (if b then 1 else 0) ∧ (b = true ↔ hrd I w P s tb T o i y x3 x4 p))) := by
  have hP := h.1.1
  unfold p_X11_weighs
  by_cases c0 : I 0 12 = 0
  · rw [if_pos c0]
    exact ⟨0, I, J, rfl, gkeep_rf I, Or.inl ⟨rfl, fun p q => q.1 c0⟩⟩
  · have hact := (ha.resolve_left c0).2
    obtain ⟨v, r, J1, e1, k1, hv⟩ := x1_reckon h J (o := o) (by omega)
    rw [if_neg c0, gB_y _ (x7_has I h.1.1 h.1.2.1 _) (in_y ho (by omega)), if_neg (by decide), e1, gB_v]
    dsimp only
    rcases hv with ⟨rfl, q1, q2, q3⟩ | ⟨rfl, q1⟩
    · obtain ⟨r2, e2, k2⟩ := x1_worthNow h q1.1 hi ei q2 q3
      have hact2 : iAct1 r2 (gact w) := by rw [iAct1_k k2]; exact hact
      obtain ⟨x, yy, hxy, e6, e7, e10, e60, hcd, elast, hx0, hx1, hp0, hp1⟩ := hact2
      have ph : (if x4 = 0 then some (0 : Int64) else some 1) = some (if x4 = 0 then 0 else 1) := by by_cases q : x4 = 0 <;> simp [q]
      obtain ⟨r3, J3, e3, k3, cd⟩ := x0_reduce (I := r2) (J := J1) (gact_or w) hxy e6 e7 (fun i hi => (hcd i hi).1) hx0 hx1 hp0 hp1 (worV I P y y s tb T o i 110 * Int32.toInt64 x3 / 1000) (Int32.toInt64 (y - I 2 o)) (if x4 = 0 then 0 else 1) (Int32.toInt64 x3)
      rw [if_neg (by decide), e2, gB_v]
      dsimp only
      rw [gL_b, gck_t (gin_nI (by omega) (by omega)), ph, gB_v, nI_clamp (by omega), k2.1 2 (by unfold gco; omega), e3, gB_v]
      refine ⟨1, r3, J3, rfl, gkeep_tr k2 k3, Or.inr ⟨rfl, ⟨c0, q1⟩, fun p => ⟨_, cd p, ?_⟩⟩⟩
      rw [actC_k k2]
      exact ⟨fun z => ⟨c0, q1, z⟩, fun z => z.2.2⟩
    · rw [if_pos rfl]
      exact ⟨0, r, J1, rfl, k1, Or.inl ⟨rfl, fun p q => q1 q.2.1⟩⟩
/-- what the reference reads of sale k -/
def sF (I : gIt) (k s o : Nat) (y parts adv price : Int32) : Prop := I 175 k = nI s ∧ I 174 k = nI o ∧ I 179 k = y ∧ I 176 k = parts ∧ I 180 k = adv ∧ I 178 k = price
theorem x12_hardOf (h : rkH I P y y s tb T) (ho : o < P) (hi : i ≤ 20) (ei : I 149 8 = nI i) (h59 : I 149 59 = I 0 12) (ha : I 0 12 = 0 ∨ (I 0 12 = 1 ∧ iAct1 I (gact w))) {k : Nat} (hk : k < 40) {parts adv price : Int32} (hf : sF I k s o y parts adv price) {M : gIt} (kM : gkeep I M) (J : gJt) : ∃ v M' J', p_X12_hardOf M J (nI k) = some (v, M', J') ∧ gkeep I M' ∧ ((v = 1 ∧ hrd I w P s tb T o i y parts adv (Int32.toInt64 price)) ∨ (v = 0 ∧ ¬ hrd I w P s tb T o i y parts adv (Int32.toInt64 price))) := by
  have hP := h.1.1
  have hs10 := h.2.2.2.1
  obtain ⟨f1, f2, f3, f4, f5, f6⟩ := hf
  have g40 : gin (nI k) 40 = true := gin_nI hk (by omega)
  have rd : ∀ M, gkeep I M → M 175 k = nI s ∧ M 174 k = nI o ∧ M 179 k = y ∧ M 176 k = parts ∧ M 180 k = adv ∧ M 178 k = price := fun M k' => by
    rw [k'.1 175 (by unfold gco; omega), k'.1 174 (by unfold gco; omega), k'.1 179 (by unfold gco; omega), k'.1 176 (by unfold gco; omega), k'.1 180 (by unfold gco; omega), k'.1 178 (by unfold gco; omega)]
    exact ⟨f1, f2, f3, f4, f5, f6⟩
  have m59 : M 149 59 = I 0 12 := by rw [kM.2.2.2.2.2.2.2.2.2.2.2.2.1]; exact h59
  unfold p_X12_hardOf
  rw [gck_t g40, nI_clamp (by omega), (rd M kM).2.2.1, gL_b, m59, gck_t g40, (rd M kM).1]
  by_cases c0 : I 0 12 = 0
  · rw [if_pos c0]
    exact ⟨0, M, J, rfl, kM, Or.inr ⟨rfl, fun q => q.1 c0⟩⟩
  · have hact := (ha.resolve_left c0).2
    obtain ⟨v, M1, J1, e1, k1, hv⟩ := x12_isReckoned h kM J
    rw [if_neg c0, e1, gB_v]
    dsimp only
    rcases hv with ⟨rfl, q1, q2⟩ | ⟨rfl, q1⟩
    · obtain ⟨M2, e2, k2⟩ := x12_worthOf h q1.1 (o := o) (by omega) hi ei q2
      obtain ⟨J3, e3⟩ := x12_isHard k2 hact J1 (Int32.toInt64 price) (worV I P y y s tb T o i 110 * Int32.toInt64 parts / 1000) (y - I 2 o) adv parts
      have m151 : M2 151 o = I 2 o := by rw [k2.1 151 (by unfold gco; omega), (h.1.2.2.2.1 o ho).1.1]
      rw [if_neg (by decide), gck_t g40, gck_t g40, gck_t g40, (rd M1 k1).1, (rd M1 k1).2.1, e2, gB_v]
      dsimp only
      rw [gck_t g40, gck_t g40, (rd M2 k2).2.1, gck_t (gin_nI (by omega) (by omega)), gck_t g40, gck_t g40, (rd M1 k1).2.2.2.2.2, (rd M2 k2).2.2.2.1, nI_clamp (show o < 2 ^ 31 by omega), m151, (rd M2 k2).2.2.2.2.1, e3, gB_v]
      dsimp only
      by_cases z : actC I (gact w) (worV I P y y s tb T o i 110 * Int32.toInt64 parts / 1000) (Int32.toInt64 (y - I 2 o)) (if adv = 0 then 0 else 1) (Int32.toInt64 parts) (Int32.toInt64 price) = true
      · rw [if_pos z, gck_t (show gbo (1 : Int32) = true from rfl)]
        exact ⟨1, M2, J3, rfl, k2, Or.inl ⟨rfl, c0, q1, z⟩⟩
      · rw [if_neg z, gck_t (show gbo (0 : Int32) = true from rfl)]
        exact ⟨0, M2, J3, rfl, k2, Or.inr ⟨rfl, fun q => z q.2.2⟩⟩
    · rw [if_pos rfl]
      exact ⟨0, M1, J1, rfl, k1, Or.inr ⟨rfl, fun q => q1 q.2.1⟩⟩
end Hr
/-- all that a sale gives to its weighing -/
theorem sale_of {I : gIt} {w : Bool} {P ns nS nC nP nT : Nat} (hs : iScal I P ns nS nC nP nT) (hr : iRest I w P ns nS nC nP nT) {k : Nat} (hk : k < nS) : ∃ s o tb T i, s < ns ∧ o < P ∧ I 86 k = nI s ∧ I 85 k = nI o ∧ rkH I P (I 91 k) (I 91 k) s tb T ∧ i ≤ 20 ∧ I 9 1 = nI i ∧ I 149 8 = nI i ∧ sF I k s o (I 91 k) (I 87 k) (I 90 k) (I 89 k) := by
  obtain ⟨⟨e1, e2, e3, e4, e5, e6, e7, e8, e9, e10⟩, ⟨o, ho, eo⟩, -, -, -, -, -, q8, -, -, s, hs1, es, -⟩ := hr.2.2.2.1 k hk
  have y3 := hs.1.2.2
  obtain ⟨tb, T, i, h, hi, ei, ei'⟩ := rkH_of hs hr hs1 (t := I 91 k) (y := I 91 k) (Int.le_refl _) (by omega)
  exact ⟨s, o, tb, T, i, hs1, ho, es, eo, h, hi, ei, ei', e2.trans es, e1.trans eo, e7, e3, e6, e5⟩
theorem x11_isHard {I : gIt} {w : Bool} {P ns nS nC nP nT : Nat} (hs : iScal I P ns nS nC nP nT) (hr : iRest I w P ns nS nC nP nT) (J : gJt) {k s o tb T i : Nat} (hk : k < nS) (hsn : s < ns) (ho : o < P) (es : I 86 k = nI s) (eo : I 85 k = nI o) (h : rkH I P (I 91 k) (I 91 k) s tb T) (hi : i ≤ 20) (ei : I 9 1 = nI i) : ∃ v r J1, p_X11_isHard I J w (nI k) = some (v, r, J1) ∧ gkeep I r ∧ ((v = 1 ∧ hrd I w P s tb T o i (I 91 k) (I 87 k) (I 90 k) (Int32.toInt64 (I 89 k))) ∨ (v = 0 ∧ ¬ hrd I w P s tb T o i (I 91 k) (I 87 k) (I 90 k) (Int32.toInt64 (I 89 k)))) := by
  obtain ⟨-, ⟨b1, b1', b1''⟩, ⟨b2, b2', b2''⟩, ⟨b3, b3', b3''⟩, -⟩ := id hs
  have g40 : gin (nI k) 40 = true := gin_nI (by omega) (by omega)
  obtain ⟨v, r, J1, e1, k1, hv⟩ := x11_weighs (w := w) h ho hi ei hr.2.2.2.2.2.2.2.2.2 J (I 87 k) (I 90 k)
  unfold p_X11_isHard
  rw [gB_y _ (x8_has I b3'' b3 _) (in_y hk (by omega)), if_neg (by decide), gck_t g40, nI_clamp (by omega), es, x11_settlementOf b2'' b2, if_pos (in_y hsn (by omega)), nI_clamp (by omega)]
  show ∃ v r J1, (gck (gin (nI k) 40) _) = some (v, r, J1) ∧ _
  rw [gck_t g40, gck_t g40, gck_t g40, gck_t g40, eo, e1, gB_v]
  dsimp only
  rcases hv with ⟨rfl, q⟩ | ⟨rfl, q1, q2⟩
  · rw [if_pos rfl]
    exact ⟨0, r, J1, rfl, k1, Or.inr ⟨rfl, q _⟩⟩
  · obtain ⟨b, e2, hb⟩ := q2 (Int32.toInt64 (I 89 k))
    rw [if_neg (by decide), gck_t g40, k1.1 89 (by unfold gco; omega), e2, gB_v]
    cases b
    · exact ⟨0, r, J1, rfl, k1, Or.inr ⟨rfl, fun z => absurd (hb.mpr z) (by decide)⟩⟩
    · exact ⟨1, r, J1, rfl, k1, Or.inl ⟨rfl, hb.mp rfl⟩⟩
theorem EE17 : EE_17 gInv := by
  intro I J w x1 hI
  obtain ⟨P, ns, nS, nC, nP, nT, hs, hr⟩ := id hI
  obtain ⟨-, ⟨b1, b1', b1''⟩, ⟨b2, b2', b2''⟩, ⟨b3, b3', b3''⟩, -⟩ := id hs
  rcases ix_or x1 (P := nS) (by omega) with ⟨k, hk, rfl⟩ | hx
  · obtain ⟨s, o, tb, T, i, hsn, ho, es, eo, h, hi, ei, ei', hf⟩ := sale_of hs hr hk
    obtain ⟨v, r, J1, e1, k1, hv⟩ := x11_isHard hs hr J hk hsn ho es eo h hi ei
    obtain ⟨v', M', J', e2, k2, hv'⟩ := x12_hardOf (w := w) h ho hi ei' hr.2.2.2.2.2.2.2.2.1 hr.2.2.2.2.2.2.2.2.2 (by omega) hf k1 J1
    have evv : v' = v := by
      rcases hv with ⟨rfl, q⟩ | ⟨rfl, q⟩ <;> rcases hv' with ⟨rfl, q'⟩ | ⟨rfl, q'⟩
      · rfl
      · exact absurd q q'
      · exact absurd q' q
      · rfl
    subst evv
    have m5 : r 149 5 = nI nS := by rw [k1.2.2.2.2.2.2.2.1]; exact b3'
    refine ⟨(if v' = 0 then 0 else 1, r, J1), ?_, (if v' = 0 then 0 else 1, M', J'), ?_, rfl, gInv_k k2 hI⟩
    · unfold p_X11_hard
      rw [gB_y _ (x8_has I b3'' b3 _) (in_y hk (by omega)), if_neg (by decide), e1, gB_v]
      dsimp only
      by_cases q : v' = 0
      · rw [if_pos q, if_pos q]
      · rw [if_neg q, if_neg q]
    · show p_X12_hard r J1 (nI k) = _
      unfold p_X12_hard
      rw [gB_y _ (x12_isSale r b3'' m5 _) (in_y hk (by omega)), if_neg (by decide), e2, gB_v]
      dsimp only
      by_cases q : v' = 0
      · rw [if_pos q, if_pos q]
      · rw [if_neg q, if_neg q]
  · refine ⟨(-1, I, J), ?_, (-1, I, J), ?_, rfl, hI⟩
    · unfold p_X11_hard
      rw [gB_n _ (x8_has I b3'' b3 _) hx, if_pos rfl]
    · show p_X12_hard I J x1 = _
      unfold p_X12_hard
      rw [gB_n _ (x12_isSale I b3'' b3' _) hx, if_pos rfl]
theorem EE19 : EE_19 gInv := by
  intro I J w x1 x2 x3 x4 hI hx4
  obtain ⟨P, ns, nS, nC, nP, nT, hs, hr⟩ := id hI
  obtain ⟨⟨y1, y2, y3⟩, ⟨b1, b1', b1''⟩, ⟨b2, b2', b2''⟩, ⟨b3, b3', b3''⟩, -⟩ := id hs
  by_cases c1 : 0 ≤ x1.toInt ∧ x1.toInt < P
  · obtain ⟨o, -, rfl, to⟩ := i_of c1.1
    by_cases c2 : 0 ≤ x2.toInt ∧ x2.toInt < ns
    · obtain ⟨s, -, rfl, ts⟩ := i_of c2.1
      by_cases c3 : 1 ≤ x3.toInt ∧ x3.toInt ≤ 1000
      · obtain ⟨tb, T, i, h, hi, ei, ei'⟩ := rkH_of hs hr (s := s) (by omega) (t := I 0 14) (y := I 0 14) (Int.le_refl _) y3
        have ha := hr.2.2.2.2.2.2.2.2.2
        obtain ⟨v, r, J1, e1, k1, hv⟩ := x11_weighs (w := w) (o := o) h (by omega) hi ei ha J x3 x4
        have m3 : r 149 3 = nI P := by rw [k1.2.2.2.2.2.1]; exact b1'
        have m4 : r 149 4 = nI ns := by rw [k1.2.2.2.2.2.2.1]; exact b2'
        have m2 : ∀ M, gkeep I M → M 149 2 = I 0 14 := fun M k => by rw [k.2.2.2.2.1]; exact y1
        have m59 : r 149 59 = I 0 12 := by rw [k1.2.2.2.2.2.2.2.2.2.2.2.2.1]; exact hr.2.2.2.2.2.2.2.2.1
        have cls : ∀ R, (if v = 0 then some ((0 : Int32), r, J1) else p_X11_least_54 r J1 w (nI o) (nI s) x3 x4 (14 + 6 * s) gFu 0) = R → p_X11_least I J w (nI o) (nI s) x3 x4 = R := fun R hR => by
          unfold p_X11_least
          rw [x11_settlementOf b2'' b2, if_pos c2, nI_clamp (by omega)]
          show gB (p_X7_has I (nI o)) _ = _
          rw [gB_y _ (x7_has I b1'' b1 _) c1, if_neg (by decide), gB_y _ (x11_isParts x3) c3, if_neg (by decide), e1, gB_v]
          exact hR
        have ref : ∀ R, (if I 0 12 = 0 then some ((0 : Int32), r, J1) else gB (p_X12_isReckoned r J1 (nI s) (I 0 14) (I 0 14)) fun r11 => if r11.1 = 0 then some ((0 : Int32), r11.2.1, r11.2.2) else gB (p_X12_worthOf r11.2.1 r11.2.2 (nI s) (nI o) (r11.2.1 149 2)) fun r14 => gL (((r14.1 * (Int32.toInt64 x3)) / (1000 : Int64))) fun u17 => p_X12_least_72 r14.2 (nI o) (nI s) x3 x4 u17 gFu r11.2.2 (0 : Int32)) = R → p_X12_least r J1 (nI o) (nI s) x3 x4 = R := fun R hR => by
          unfold p_X12_least
          rw [gB_y _ (x12_isPerson r b1'' m3 _) c1, if_neg (by decide), gB_y _ (x12_isSettlement r b2'' m4 _) c2, if_neg (by decide), gB_y _ (x12_isParts x3) c3, if_neg (by decide), m59, m2 r k1]
          exact hR
        obtain ⟨v2, M1, J2, e2, k2, hv2⟩ := x12_isReckoned h k1 J1
        rcases hv with ⟨rfl, q⟩ | ⟨rfl, ⟨q0, q1⟩, q2⟩
        · by_cases c0 : I 0 12 = 0
          · exact ⟨(0, r, J1), cls _ (by rw [if_pos rfl]), (0, r, J1), ref _ (by rw [if_pos c0]), rfl, gInv_k k1 hI⟩
          · rcases hv2 with ⟨rfl, z1, z2⟩ | ⟨rfl, z1⟩
            · -- nothing weighs only where nothing is reckoned
              exfalso
              have hw0 : p_X11_weighs I J w (14 + 6 * s) (nI o) x3 x4 (I 0 14) = some (0, r, J1) := e1
              obtain ⟨v3, r3, J3, e3, k3, hv3⟩ := x1_reckon h J (o := o) (by omega)
              unfold p_X11_weighs at hw0
              rw [if_neg c0, gB_y _ (x7_has I b1'' b1 _) c1, if_neg (by decide), e3, gB_v] at hw0
              dsimp only at hw0
              rcases hv3 with ⟨rfl, w1, w2, w3⟩ | ⟨rfl, w1⟩
              · rw [if_neg (by decide)] at hw0
                obtain ⟨r4, e4, k4⟩ := x1_worthNow h w1.1 hi ei w2 w3
                rw [e4, gB_v] at hw0
                dsimp only at hw0
                rw [gL_b, gck_t (gin_nI (by omega) (by omega))] at hw0
                have ph : (if x4 = 0 then some (0 : Int64) else some 1) = some (if x4 = 0 then 0 else 1) := by by_cases q : x4 = 0 <;> simp [q]
                rw [ph, gB_v] at hw0
                cases hq : p_X0_reduce r4 J3 (gact w) (worV I P (I 0 14) (I 0 14) s tb T o i 110 * Int32.toInt64 x3 / 1000) (Int32.toInt64 (I 0 14 - r4 2 (nI o).toNatClampNeg)) (if x4 = 0 then 0 else 1) (Int32.toInt64 x3) with
                | none => rw [hq] at hw0; exact absurd hw0 (by simp [gB])
                | some z => rw [hq, gB_v, Option.some_inj] at hw0; exact absurd (congrArg Prod.fst hw0) (show ¬ (1 : Int32) = 0 by decide)
              · exact w1 z1
            · refine ⟨(0, r, J1), cls _ (by rw [if_pos rfl]), (0, M1, J2), ref _ ?_, rfl, gInv_k k2 hI⟩
              rw [if_neg c0, e2, gB_v]
              rfl
        · rcases hv2 with ⟨rfl, z1, z2⟩ | ⟨rfl, z1⟩
          · obtain ⟨M2, e4, k4⟩ := x12_worthOf h z1.1 (o := o) (by omega) hi ei' z2
            have hact := (ha.resolve_left q0).2
            have m151 : M2 151 o = I 2 o := by rw [k4.1 151 (by unfold gco; omega), (hr.1 o (by omega)).1.1]
            have loop : ∀ (d f f' p : Nat) (J3 : gJt), p + d = 100001 → d < f → d < f' → ∃ v J4, p_X11_least_54 r J1 w (nI o) (nI s) x3 x4 (14 + 6 * s) f (nI p) = some (v, r, J1) ∧ p_X12_least_72 M2 (nI o) (nI s) x3 x4 (worV I P (I 0 14) (I 0 14) s tb T o i 110 * Int32.toInt64 x3 / 1000) f' J3 (nI p) = some (v, M2, J4) := by
              intro d
              induction d with
              | zero =>
                intro f f' p J3 hp hf hf'
                obtain ⟨f, rfl⟩ : ∃ q, f = q + 1 := ⟨f - 1, by omega⟩
                obtain ⟨f', rfl⟩ : ∃ q, f' = q + 1 := ⟨f' - 1, by omega⟩
                unfold p_X11_least_54 p_X12_least_72
                rw [if_pos (show (100000 : Int32) < nI p from nI_lt (a := 100000) (by omega) (by omega)), if_pos (show (100000 : Int32) < nI p from nI_lt (a := 100000) (by omega) (by omega))]
                exact ⟨-1, J3, rfl, rfl⟩
              | succ d ih =>
                intro f f' p J3 hp hf hf'
                obtain ⟨f, rfl⟩ : ∃ q, f = q + 1 := ⟨f - 1, by omega⟩
                obtain ⟨f', rfl⟩ : ∃ q, f' = q + 1 := ⟨f' - 1, by omega⟩
                obtain ⟨b, eb, hb⟩ := q2 (Int32.toInt64 (nI p))
                obtain ⟨J4, e5⟩ := x12_isHard k4 hact J3 (Int32.toInt64 (nI p)) (worV I P (I 0 14) (I 0 14) s tb T o i 110 * Int32.toInt64 x3 / 1000) (I 0 14 - I 2 o) x4 x3
                unfold p_X11_least_54 p_X12_least_72
                rw [if_neg (show ¬ (100000 : Int32) < nI p from nI_nlt (a := 100000) (by omega) (by omega)), if_neg (show ¬ (100000 : Int32) < nI p from nI_nlt (a := 100000) (by omega) (by omega)), eb, gB_v, gck_t (gin_nI (by omega) (by omega)), nI_clamp (by omega), m2 M2 k4, m151, e5, gB_v]
                dsimp only
                by_cases z : actC I (gact w) (worV I P (I 0 14) (I 0 14) s tb T o i 110 * Int32.toInt64 x3 / 1000) (Int32.toInt64 (I 0 14 - I 2 o)) (if x4 = 0 then 0 else 1) (Int32.toInt64 x3) (Int32.toInt64 (nI p)) = true
                · have hbt : b = true := hb.mpr ⟨q0, q1, z⟩
                  rw [if_pos hbt, if_neg (by decide), if_pos z, if_neg (by decide), nI_1]
                  exact ih f f' (p + 1) J4 (by omega) (by omega) (by omega)
                · have hbf : ¬ b = true := fun q => z (hb.mp q).2.2
                  rw [if_neg hbf, if_pos rfl, if_neg z, if_pos rfl]
                  exact ⟨nI p, J4, rfl, rfl⟩
            obtain ⟨v, J4, l1, l2⟩ := loop 100001 gFu gFu 0 J2 (by omega) (by unfold gFu; omega) (by unfold gFu; omega)
            refine ⟨(v, r, J1), cls _ (by rw [if_neg (by decide)]; exact l1), (v, M2, J4), ref _ ?_, rfl, gInv_k k4 hI⟩
            rw [if_neg q0, e2, gB_v]
            dsimp only
            rw [if_neg (by decide), m2 M1 k2, e4, gB_v]
            dsimp only
            rw [gL_b]
            exact l2
          · exact absurd q1 z1
      · refine ⟨(-1, I, J), ?_, (-1, I, J), ?_, rfl, hI⟩
        · unfold p_X11_least
          rw [x11_settlementOf b2'' b2, if_pos c2]
          show gB (p_X7_has I (nI o)) _ = _
          rw [gB_y _ (x7_has I b1'' b1 _) c1, if_neg (by decide), gB_n _ (x11_isParts x3) c3, if_pos rfl]
        · show p_X12_least I J (nI o) (nI s) x3 x4 = _
          unfold p_X12_least
          rw [gB_y _ (x12_isPerson I b1'' b1' _) c1, if_neg (by decide), gB_y _ (x12_isSettlement I b2'' b2' _) c2, if_neg (by decide), gB_n _ (x12_isParts x3) c3, if_pos rfl]
    · refine ⟨(-1, I, J), ?_, (-1, I, J), ?_, rfl, hI⟩
      · unfold p_X11_least
        rw [x11_settlementOf b2'' b2, if_neg c2]
        rfl
      · show p_X12_least I J (nI o) x2 x3 x4 = _
        unfold p_X12_least
        rw [gB_y _ (x12_isPerson I b1'' b1' _) c1, if_neg (by decide), gB_n _ (x12_isSettlement I b2'' b2' _) c2, if_pos rfl]
  · refine ⟨(-1, I, J), ?_, (-1, I, J), ?_, rfl, hI⟩
    · unfold p_X11_least
      rw [x11_settlementOf b2'' b2]
      by_cases c2 : 0 ≤ x2.toInt ∧ x2.toInt < ns
      · rw [if_pos c2]
        show gB (p_X7_has I x1) _ = _
        rw [gB_n _ (x7_has I b1'' b1 _) c1, if_pos rfl]
      · rw [if_neg c2]
        rfl
    · show p_X12_least I J x1 x2 x3 x4 = _
      unfold p_X12_least
      rw [gB_n _ (x12_isPerson I b1'' b1' _) c1, if_pos rfl]
