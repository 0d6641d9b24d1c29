/-! ===== undo ===== -/
/-- all cells but 94 -/
def agr (I I' : gIt) : Prop := ∀ x, x ≠ 94 → I' x = I x
section Ag
variable {I I' : gIt} (h : agr I I')
theorem thr_g (h : agr I I') (P : Nat) (t : Int32) : thr I' P t = thr I P t := by funext o; unfold thr; rw [h 4 (by decide)]
theorem ded_g (h : agr I I') (t : Int32) : ded I' t = ded I t := by funext o; unfold ded; rw [h 5 (by decide), h 6 (by decide)]
theorem chd_g (h : agr I I') (P : Nat) (t : Int32) (q : Nat) : chd I' P t q = chd I P t q := by funext o; unfold chd; rw [thr_g h, h 3 (by decide)]
theorem nmS_g (h : agr I I') (P : Nat) (t : Int32) {s : Nat} (hs : s < 10) : nmS I' P t s = nmS I P t s := by
  unfold nmS
  apply gM_cg
  intro o ho
  unfold NMb
  rw [h (14 + 6 * s) (by omega), thr_g h]
  simp only [chd_g h]
theorem lvL_g (h : agr I I') (P : Nat) (t : Int32) {s : Nat} (hs : s < 10) : ∀ k, lvL I' P t s k = lvL I P t s k := by
  intro k
  induction k with
  | zero => rfl
  | succ k ih =>
    unfold lvL lcd
    rw [ih, nmS_g h P t hs, ded_g h]
theorem agN_g (h : agr I I') (y : Int32) : agN I' y = agN I y := by funext o; unfold agN; rw [h 2 (by decide)]
theorem hsN_g (h : agr I I') (tb : Nat) (y : Int32) : hsN I' tb y = hsN I tb y := by funext o; unfold hsN; rw [h 10 (by decide), agN_g h]
theorem whN_g (h : agr I I') (tb : Nat) (y : Int32) (T : Nat) (l : List Nat) : whN I' tb y T l = whN I tb y T l := by unfold whN; rw [hsN_g h]
theorem gdk_g (h : agr I I') (P : Nat) (t y : Int32) {s : Nat} (hs : s < 10) (tb T k : Nat) : gdk I' P t y s tb T k = gdk I P t y s tb T k := by unfold gdk; rw [lvL_g h P t hs, whN_g h]
theorem rkG_g (h : agr I I') (P : Nat) (t y : Int32) {s : Nat} (hs : s < 10) (tb T : Nat) : rkG I' P t y s tb T = rkG I P t y s tb T := by unfold rkG; rw [thr_g h, ded_g h, gdk_g h P t y hs]
theorem fallOf_g (h : agr I I') {s : Nat} (hs : s < 10) (P A : Nat) : fallOf I' P A s = fallOf I P A s := by
  have e14 := h (14 + 6 * s) (by omega)
  have e15 := h (15 + 6 * s) (by omega)
  have e16 := h (16 + 6 * s) (by omega)
  have e17 := h (17 + 6 * s) (by omega)
  have e18 := h (18 + 6 * s) (by omega)
  have e19 := h (19 + 6 * s) (by omega)
  have ec : ∀ q, cs I' P A q = cs I P A q := fun q => by unfold cs; rw [chd_g h]
  have et : tru I' P A = tru I P A := by funext c; unfold tru; rw [ec]
  have eh : hold I' P A s = hold I P A s := by funext k; unfold hold; rw [et, e16, e19]
  have es : ∀ y, tkS I' P A s y = tkS I P A s y := fun y => by unfold tkS; rw [e17, ec]
  have ee : ∀ y, tkE I' P A s y = tkE I P A s y := fun y => by unfold tkE; rw [e14, e18, es]
  have eg : ∀ a n st, gsh I' P A s a n st = gsh I P A s a n st := by
    intro a n st
    induction n with
    | zero => rfl
    | succ n ih => unfold gsh; rw [ih, es, ee]
  unfold fallOf
  dsimp only
  rw [eh, e14, e15, eg]
theorem gfA_g (h : agr I I') (P : Nat) (t : Int32) {s : Nat} (hs : s < 10) (o x : Nat) : gfA I' P t s o x = gfA I P t s o x := by unfold gfA; rw [lvL_g h P t hs, fallOf_g h hs]
theorem wtB_g (h : agr I I') (tb : Nat) (y : Int32) (T : Nat) (p : Nat → Nat) (x k : Nat) : ∀ n, wtB I' tb y T p x k n = wtB I tb y T p x k n := by
  intro n
  induction n with
  | zero => unfold wtB; rw [h 10 (by decide), agN_g h]
  | succ n ih => unfold wtB; rw [ih, h 10 (by decide), agN_g h]
theorem worV_g (h : agr I I') (P : Nat) (t y : Int32) {s : Nat} (hs : s < 10) (tb T o i n : Nat) : worV I' P t y s tb T o i n = worV I P t y s tb T o i n := by
  unfold worV
  apply sm_cg
  intro k _
  have : wgV I' P t y s tb T o k = wgV I P t y s tb T o k := by
    unfold wgV
    rw [lvL_g h P t hs]
    apply sm_cg
    intro x _
    unfold wtA
    rw [lvL_g h P t hs, wtB_g h, gfA_g h P t hs]
  rw [this, lvL_g h P t hs, whN_g h]
theorem actC_g (h : agr I I') {w : Bool} (g0 g1 g2 g3 p : Int64) : actC I' (gact w) g0 g1 g2 g3 p = actC I (gact w) g0 g1 g2 g3 p := by
  unfold actC
  rw [h (gact w) (by cases w <;> decide), h (gact w + 1) (by cases w <;> decide)]
theorem hrd_g (h : agr I I') {w : Bool} {P s tb T o i : Nat} (hs : s < 10) {y parts adv : Int32} {p : Int64} : hrd I' w P s tb T o i y parts adv p ↔ hrd I w P s tb T o i y parts adv p := by
  unfold hrd
  rw [h 0 (by decide), rkG_g h P y y hs, worV_g h P y y hs, h 2 (by decide), actC_g h]
theorem rkH_g (h : agr I I') {P s tb T : Nat} {t y : Int32} (q : rkH I P t y s tb T) : rkH I' P t y s tb T := by
  obtain ⟨⟨c1, c2, c3, c4, c5, c6⟩, q2, q3, q4, q5, q6, q7, q8, q9, i, q10, q11, q12⟩ := q
  refine ⟨⟨c1, by rw [h 1 (by decide)]; exact c2, by rw [h 149 (by decide)]; exact c3, fun o ho => iPer1_c (fun x hx => h x (by omega)) (by rw [h 0 (by decide)]; exact Int.le_refl _) (c4 o ho), by rw [h 0 (by decide)]; exact c5, by rw [h 149 (by decide), h 0 (by decide)]; exact c6⟩, fun k i hk hi => iTab1_c (h 10 (by decide)) (h 156 (by decide)) (q2 k i hk hi), q3, q4, iSet1_c (fun x hx => h x (by omega)) (Nat.le_refl _) q4 q5, by rw [h (14 + 6 * s) (by omega)]; exact q6, q7, by rw [h (14 + 6 * s) (by omega)]; exact q8, q9, i, q10, by rw [h 9 (by decide)]; exact q11, by rw [h 149 (by decide)]; exact q12⟩
end Ag
theorem gkeep_g {I M : gIt} (h : gkeep I M) {a j : Nat} {v : Int32} (ha : gco a) : gkeep (gu2 I a j v) (gu2 M a j v) := by
  have ne : a ≠ 0 ∧ a ≠ 1 ∧ a ≠ 9 ∧ a ≠ 11 ∧ a ≠ 84 ∧ a ≠ 95 ∧ a ≠ 103 ∧ a ≠ 126 ∧ a ≠ 149 := by unfold gco at ha; omega
  obtain ⟨n0, n1, n9, n11, n84, n95, n103, n126, n149⟩ := ne
  obtain ⟨e, ⟨b1, b2, b3, b4, b5, b6, b7, b8, b9, b10⟩, ⟨c1, c2, c3, c4, c5, c6⟩, d1, d2, d3, d4, d5, d6, d7, d8, d9, d10, d11⟩ := h
  have k : ∀ {x y : Nat}, a ≠ x → M x y = I x y → gu2 M a j v x y = gu2 I a j v x y := fun hx q => by rw [gu_rd (Ne.symm hx), gu_rd (Ne.symm hx)]; exact q
  refine ⟨fun x hx => ?_, ⟨k n0 b1, k n0 b2, k n0 b3, k n0 b4, k n1 b5, k n1 b6, k n9 b7, k n11 b8, k n84 b9, k n95 b10⟩, ⟨k n103 c1, k n103 c2, k n103 c3, k n126 c4, k n126 c5, k n126 c6⟩, k n149 d1, k n149 d2, k n149 d3, k n149 d4, k n149 d5, k n149 d6, k n149 d7, k n149 d8, k n149 d9, k n149 d10, k n149 d11⟩
  funext z
  unfold gu2
  rw [e x hx]
def grw (i : Nat) : Nat → Int64 → Int64
  | 0, v => v
  | n + 1, v => grw i n (gminL (v * lN (100 + i) / 100) 1000000000000)
theorem x6_grown {I : gIt} {i : Nat} (hi : i ≤ 20) (ei : I 9 1 = nI i) (y1 : Int64) {n : Nat} (hn : n < 2 ^ 30) : ∀ (d f k : Nat) (v : Int64), k + d = n → d < f → p_X6_grown_6 I y1 (nI n) f v (nI k) = some (grw i d v) := by
  intro d
  induction d with
  | zero =>
    intro f k v hk hf
    obtain ⟨f, rfl⟩ : ∃ q, f = q + 1 := ⟨f - 1, by omega⟩
    unfold p_X6_grown_6
    rw [if_pos (nI_le (by omega) (by omega))]
    rfl
  | succ d ih =>
    intro f k v hk hf
    obtain ⟨f, rfl⟩ : ∃ q, f = q + 1 := ⟨f - 1, by omega⟩
    have e1 : 100 + I 9 1 = nI (100 + i) := by rw [ei]; show nI 100 + nI i = _; rw [nI_add]
    unfold p_X6_grown_6
    rw [if_neg (nI_ge (by omega) (by omega)), e1, nI_l (by omega), gL_b, nI_1]
    exact ih f (k + 1) _ (by omega) (by omega)
theorem x12_grown {M : gIt} {J : gJt} {i : Nat} (hi : i ≤ 20) (ei : M 149 8 = nI i) (x1 : Int32) {Y : Nat} (hY : Y < 2 ^ 30) (eY : M 149 2 = nI Y) : ∀ (d f k : Nat) (v : Int64), k + d = Y → d < f → p_X12_undo_78 M J x1 f v (nI k) = some (grw i d v, M, J) := by
  intro d
  induction d with
  | zero =>
    intro f k v hk hf
    obtain ⟨f, rfl⟩ : ∃ q, f = q + 1 := ⟨f - 1, by omega⟩
    unfold p_X12_undo_78
    rw [eY, if_pos (nI_le (by omega) (by omega))]
    rfl
  | succ d ih =>
    intro f k v hk hf
    obtain ⟨f, rfl⟩ : ∃ q, f = q + 1 := ⟨f - 1, by omega⟩
    have e1 : (100 : Int64) + Int32.toInt64 (M 149 8) = lN (100 + i) := by rw [ei, nI_l (by omega)]; show lN 100 + lN i = _; rw [lN_add]
    unfold p_X12_undo_78
    rw [eY, if_neg (nI_ge (by omega) (by omega)), e1, gL_b, nI_1, Int64.mul_comm]
    have nx := fun u => ih f (k + 1) u (by omega) (by omega)
    have eg : grw i (d + 1) v = grw i d (gminL (v * lN (100 + i) / 100) 1000000000000) := rfl
    rw [eg]
    unfold gminL
    generalize v * lN (100 + i) / 100 = u
    by_cases c : 0 ≤ lg_cmp u 1000000000000
    · rw [if_pos c]
      have c2 := lgc_ge.mp c
      by_cases c3 : (1000000000000 : Int64) < u
      · rw [if_pos c3]; exact nx _
      · rw [if_neg c3]
        have c4 : u = 1000000000000 := by
          apply Int64.toInt_inj.mp
          rw [Int64.lt_iff_toInt_lt] at c3
          omega
        rw [c4]; exact nx _
    · rw [if_neg c]
      have c2 : u.toInt < (1000000000000 : Int64).toInt := by
        rcases Int.lt_or_le u.toInt (1000000000000 : Int64).toInt with z | z
        · exact z
        · exact absurd (lgc_ge.mpr (by omega)) c
      rw [if_neg (by rw [Int64.lt_iff_toInt_lt]; omega)]
      exact nx _
set_option maxHeartbeats 4000000 in
theorem EE18 : EE_18 gInv := by
  intro I J w x1 hI
  obtain ⟨P, ns, nS, nC, nP, nT, hs, hr⟩ := id hI
  obtain ⟨⟨y1, y2, y3⟩, ⟨b1, b1', b1''⟩, ⟨b2, b2', b2''⟩, ⟨b3, b3', b3''⟩, b4, b5, b6, b7, b8⟩ := id hs
  rcases ix_or x1 (P := nS) (by omega) with ⟨k, hk, rfl⟩ | hx
  · have g40 : gin (nI k) 40 = true := gin_nI (by omega) (by omega)
    have hc : (nI k).toNatClampNeg = k := nI_clamp (by omega)
    have hsal := hr.2.2.2.1 k hk
    obtain ⟨⟨e1, e2, e3, e4, e5, e6, e7, e8, e9, e10⟩, s2, s3, s4, s5, s6, s7, s8, s9, s10, s11⟩ := id hsal
    obtain ⟨s, o, tb, T, i, hsn, ho, es, eo, h, hi, ei, ei', hf⟩ := sale_of hs hr hk
    have hs10 : s < 10 := by omega
    have eT := h.2.2.2.2.2.1
    have hTP := h.2.2.2.2.2.2.1
    have e158 : I 158 s = nI T := by rw [(hr.2.2.2.2.2.2.2.1 s hsn).2.1.1, eT]
    have kT := x7_kd I b1'' b1 hTP (I 0 14)
    have mT := x12_kd I (k := T) (by omega) (iPer_kd (hr.1 T hTP)) (I 0 14)
    by_cases c1 : I 94 k = -1
    · by_cases c2 : ¬ I 5 T = -1 ∧ (I 6 T).toInt ≤ (I 0 14).toInt
      · refine ⟨(-1, I, J), ?_, (-1, I, J), ?_, rfl, hI⟩
        · unfold p_X11_undo
          rw [gB_y _ (x8_has I b3'' b3 _) (in_y hk (by omega)), if_neg (by decide), gck_t g40, hc, if_pos c1, gck_t g40, es, x11_settlementOf b2'' b2, if_pos (in_y hsn (by omega)), nI_clamp (by omega)]
          show gB (p_X7_knownDead I (I (14 + 6 * s) 6) (I 0 14)) _ = _
          rw [eT, gB_y _ kT c2, if_neg (by decide)]
        · show p_X12_undo I J (nI k) = _
          unfold p_X12_undo
          rw [gB_y _ (x12_isSale I b3'' b3' _) (in_y hk (by omega)), if_neg (by decide), gck_t g40, hc, e10, if_pos c1, gck_t g40, hf.1, gck_t (gin_nI (by omega) (by omega)), nI_clamp (by omega), e158, y1, gB_y _ mT c2, if_neg (by decide)]
      · obtain ⟨v, r, J1, eh, k1, hv⟩ := x11_isHard hs hr J hk hsn ho es eo h hi ei
        have cls : ∀ R, (if v = 0 then some ((-1 : Int64), r, J1) else gL ((r 0 14)) fun z18 => gck (gin (nI k) 40) (gL (gu2 r 94 k z18) fun I20 => gck (gin (nI k) 40) (gck (gin (nI k) 40) (gB (p_X6_grown I20 (Int32.toInt64 (I20 89 k)) ((I20 0 14) - (I20 91 k))) fun r23 => some (r23, I20, J1))))) = R → p_X11_undo I J w (nI k) = R := fun R hR => by
          unfold p_X11_undo
          rw [gB_y _ (x8_has I b3'' b3 _) (in_y hk (by omega)), if_neg (by decide), gck_t g40, hc, if_pos c1, gck_t g40, es, x11_settlementOf b2'' b2, if_pos (in_y hsn (by omega)), nI_clamp (by omega)]
          show gB (p_X7_knownDead I (I (14 + 6 * s) 6) (I 0 14)) _ = _
          rw [eT, gB_n _ kT c2, if_pos rfl, eh, gB_v]
          exact hR
        -- the reference, from a memory that agrees with I but in cell 94
        have ref : ∀ (B M : gIt) (J2 : gJt), agr I B → gkeep B M → ∀ v' M' J', p_X12_hardOf M J2 (nI k) = some (v', M', J') → ∀ R, (if v' = 0 then some ((-1 : Int64), M', J') else gL ((M' 149 2)) fun z14 => gck (gin (nI k) 40) (gL (gu2 M' 183 k z14) fun I16 => gck (gin (nI k) 40) (gL ((Int32.toInt64 (I16 178 k))) fun u18 => gck (gin (nI k) 40) (gL ((I16 179 k)) fun z20 => p_X12_undo_78 I16 J' (nI k) gFu u18 z20)))) = R → p_X12_undo M J2 (nI k) = R := fun B M J2 hB kM v' M' J' eM R hR => by
          have m5 : M 149 5 = nI nS := by rw [kM.2.2.2.2.2.2.2.1, hB 149 (by decide)]; exact b3'
          have m183 : M 183 k = -1 := by rw [kM.1 183 (by unfold gco; omega), hB 183 (by decide), e10]; exact c1
          have m175 : M 175 k = nI s := by rw [kM.1 175 (by unfold gco; omega), hB 175 (by decide)]; exact hf.1
          have m158 : M 158 s = nI T := by rw [kM.1 158 (by unfold gco; omega), hB 158 (by decide)]; exact e158
          have m2 : M 149 2 = I 0 14 := by rw [kM.2.2.2.2.1, hB 149 (by decide)]; exact y1
          have mT' : p_X12_isDead M (nI T) (I 0 14) = some (if ¬ I 5 T = -1 ∧ (I 6 T).toInt ≤ (I 0 14).toInt then 1 else 0) := by
            have q := iPer_kd (hr.1 T hTP)
            have := x12_kd M (k := T) (by omega) (by rw [kM.1 154 (by unfold gco; omega), kM.1 155 (by unfold gco; omega), kM.1 5 (by unfold gco; omega), kM.1 6 (by unfold gco; omega), hB 154 (by decide), hB 155 (by decide), hB 5 (by decide), hB 6 (by decide)]; exact q) (I 0 14)
            rw [kM.1 5 (by unfold gco; omega), kM.1 6 (by unfold gco; omega), hB 5 (by decide), hB 6 (by decide)] at this
            exact this
          unfold p_X12_undo
          rw [gB_y _ (x12_isSale M b3'' m5 _) (in_y hk (by omega)), if_neg (by decide), gck_t g40, hc, m183, if_pos rfl, gck_t g40, m175, gck_t (gin_nI (by omega) (by omega)), nI_clamp (show s < 2 ^ 31 by omega), m158, m2, gB_n _ mT' c2, if_pos rfl, eM, gB_v]
          exact hR
        rcases hv with ⟨rfl, hh⟩ | ⟨rfl, hh⟩
        · -- undone
          have r14 : r 0 14 = I 0 14 := k1.2.1.2.2.1
          have agB : agr I (gu2 I 94 k (I 0 14)) := fun x hx' => gu2_ne hx'
          have kB : gkeep (gu2 I 94 k (I 0 14)) (gu2 r 94 k (I 0 14)) := gkeep_g k1 (by unfold gco; omega)
          have haB : gu2 I 94 k (I 0 14) 0 12 = 0 ∨ (gu2 I 94 k (I 0 14) 0 12 = 1 ∧ iAct1 (gu2 I 94 k (I 0 14)) (gact w)) := by
            rcases hr.2.2.2.2.2.2.2.2.2 with q | ⟨q, q'⟩
            · exact Or.inl q
            · exact Or.inr ⟨q, iAct1_c (agB _ (by cases w <;> decide)) (agB _ (by cases w <;> decide)) (agB 189 (by decide)) (agB 190 (by decide)) rfl q'⟩
          obtain ⟨v', M', J', eM, kM, hv'⟩ := x12_hardOf (w := w) (I := gu2 I 94 k (I 0 14)) (rkH_g agB h) ho hi ei' hr.2.2.2.2.2.2.2.2.1 haB (by omega) hf kB J1
          have hv1 : v' = 1 := by
            rcases hv' with ⟨q, -⟩ | ⟨-, q⟩
            · exact q
            · exact absurd ((hrd_g agB hs10).mpr hh) q
          subst hv1
          obtain ⟨Y, -, eY, tY⟩ := i_of (x := I 0 14) (by omega)
          obtain ⟨Z, -, eZ, tZ⟩ := i_of (x := I 91 k) (by omega)
          have hZY : Z ≤ Y := by omega
          have M2 : M' 149 2 = I 0 14 := by rw [kM.2.2.2.2.1]; exact y1
          have M8 : M' 149 8 = nI i := by rw [kM.2.2.2.2.2.2.2.2.2.2.1]; exact ei'
          have M178 : M' 178 k = I 89 k := by rw [kM.1 178 (by unfold gco; omega)]; exact e5
          have M179 : M' 179 k = I 91 k := by rw [kM.1 179 (by unfold gco; omega)]; exact e7
          have kfin : gkeep (gu2 (gu2 I 94 k (I 0 14)) 183 k (I 0 14)) (gu2 M' 183 k (I 0 14)) := gkeep_g kM (by unfold gco; omega)
          refine ⟨(grw i (Y - Z) (Int32.toInt64 (I 89 k)), gu2 r 94 k (I 0 14), J1), cls _ ?_, (grw i (Y - Z) (Int32.toInt64 (I 89 k)), gu2 M' 183 k (I 0 14), J'), ref _ _ _ agB kB 1 M' J' eM _ ?_, rfl, gInv_k (J := J) kfin ?_⟩
          · rw [if_neg (by decide), gL_b, gck_t g40, gL_b, gck_t g40, gck_t g40, r14, gu_rd (by decide), gu_rd (by decide), gu_rd (by decide), k1.1 89 (by unfold gco; omega), k1.1 91 (by unfold gco; omega), r14, eZ]
            have : I 0 14 - nI Z = nI (Y - Z) := by rw [eY, pk_sub hZY]
            rw [this]
            unfold p_X6_grown
            rw [show p_X6_grown_6 (gu2 r 94 k (I 0 14)) (Int32.toInt64 (I 89 k)) (nI (Y - Z)) gFu (Int32.toInt64 (I 89 k)) 0 = _ from x6_grown hi (show gu2 r 94 k (I 0 14) 9 1 = nI i by rw [gu_rd (by decide), k1.2.1.2.2.2.2.2.2.1]; exact ei) _ (by omega) (Y - Z) gFu 0 _ (by omega) (by unfold gFu; omega), gB_v]
          · rw [if_neg (by decide), gL_b, gck_t g40, gL_b, gck_t g40, gL_b, gck_t g40, gL_b, M2, gu_rd (by decide), gu_rd (by decide), M178, M179, eZ]
            exact x12_grown hi (show gu2 M' 183 k (I 0 14) 149 8 = nI i by rw [gu_rd (by decide)]; exact M8) (nI k) (Y := Y) (by omega) (show gu2 M' 183 k (I 0 14) 149 2 = nI Y by rw [gu_rd (by decide), M2]; exact eY) (Y - Z) gFu Z _ (by omega) (by unfold gFu; omega)
          · -- the invariant
            have t : ∀ x, x ≠ 94 → x ≠ 183 → gu2 (gu2 I 94 k (I 0 14)) 183 k (I 0 14) x = I x := fun x q1 q2 => by rw [gu2_ne q2, gu2_ne q1]
            refine ⟨P, ns, nS, nC, nP, nT, ⟨⟨y1, y2, y3⟩, ⟨b1, b1', b1''⟩, ⟨b2, b2', b2''⟩, ⟨b3, b3', b3''⟩, b4, b5, b6, b7, b8⟩, iRest_g (I := I) b2'' (Nat.le_refl _) hr (fun x hx => t x (by omega) (by omega)) rfl rfl rfl rfl (by cases w <;> rfl) (by cases w <;> rfl) rfl rfl rfl rfl rfl hr.1 (fun j hj => ?_) hr.2.2.2.2.1 hr.2.2.2.2.2.1 hr.2.2.2.2.2.2.1⟩
            by_cases hjk : j = k
            · subst hjk
              unfold iSal1
              rw [t 174 (by decide) (by decide), t 175 (by decide) (by decide), t 176 (by decide) (by decide), t 177 (by decide) (by decide), t 178 (by decide) (by decide), t 179 (by decide) (by decide), t 180 (by decide) (by decide), t 181 (by decide) (by decide), t 182 (by decide) (by decide), t 85 (by decide) (by decide), t 86 (by decide) (by decide), t 87 (by decide) (by decide), t 88 (by decide) (by decide), t 89 (by decide) (by decide), t 90 (by decide) (by decide), t 91 (by decide) (by decide), t 92 (by decide) (by decide), t 93 (by decide) (by decide), t 0 (by decide) (by decide), t 5 (by decide) (by decide), t 6 (by decide) (by decide)]
              have q94 : gu2 (gu2 I 94 j (I 0 14)) 183 j (I 0 14) 94 j = I 0 14 := by rw [gu_rd (by decide), gu_sl, if_pos rfl]
              have q183 : gu2 (gu2 I 94 j (I 0 14)) 183 j (I 0 14) 183 j = I 0 14 := by rw [gu_sl, if_pos rfl]
              rw [q94, q183]
              refine ⟨⟨e1, e2, e3, e4, e5, e6, e7, e8, e9, rfl⟩, s2, s3, s4, s5, s6, s7, s8, s9, Or.inr ⟨y2, Int.le_refl _⟩, s, hsn, es, fun T' hT' eT' => Or.inl ?_⟩
              rw [t (14 + 6 * s) (by omega) (by omega), eT, nI_eq (by omega) (by omega)] at eT'
              subst eT'
              rcases (hr.1 T hTP).2.2.2 with z | z
              · exact z
              · by_cases z5 : I 5 T = -1
                · exact z5
                · exact absurd ⟨z5, z.2.2.2.2⟩ c2
            · exact iSal1_p (I := I) (fun r hr => by rw [gu_ne (by omega), gu_ne (by omega)]) (fun q _ => Or.inl ⟨rfl, rfl⟩) (fun q hq => by rw [t _ (by omega) (by omega)]) (Int.le_refl _) (Nat.le_refl _) (Nat.le_refl _) (hr.2.2.2.1 j hj)
        · -- not hard
          obtain ⟨v', M', J', eM, kM, hv'⟩ := x12_hardOf (w := w) h ho hi ei' hr.2.2.2.2.2.2.2.2.1 hr.2.2.2.2.2.2.2.2.2 (by omega) hf k1 J1
          have hv1 : v' = 0 := by
            rcases hv' with ⟨-, q⟩ | ⟨q, -⟩
            · exact absurd q hh
            · exact q
          subst hv1
          exact ⟨(-1, r, J1), cls _ (by rw [if_pos rfl]), (-1, M', J'), ref I r J1 (fun _ _ => rfl) k1 0 M' J' eM _ (by rw [if_pos rfl]), rfl, gInv_k kM hI⟩
    · refine ⟨(-1, I, J), ?_, (-1, I, J), ?_, rfl, hI⟩
      · unfold p_X11_undo
        rw [gB_y _ (x8_has I b3'' b3 _) (in_y hk (by omega)), if_neg (by decide), gck_t g40, hc, if_neg c1]
      · show p_X12_undo I J (nI k) = _
        unfold p_X12_undo
        rw [gB_y _ (x12_isSale I b3'' b3' _) (in_y hk (by omega)), if_neg (by decide), gck_t g40, hc, e10, if_neg c1]
  · refine ⟨(-1, I, J), ?_, (-1, I, J), ?_, rfl, hI⟩
    · unfold p_X11_undo
      rw [gB_n _ (x8_has I b3'' b3 _) hx, if_pos rfl]
    · show p_X12_undo I J x1 = _
      unfold p_X12_undo
      rw [gB_n _ (x12_isSale I b3'' b3' _) hx, if_pos rfl]
