/-! ===== act: the call ===== -/
theorem txS_r {b : Nat → Int32} {n : Nat} {w1 w2 : List Int32} {le : Bool} {j : Nat} (h : txS b n = .inr (w1, w2, le, j)) : ∃ t, suS b n (faS b n 8) 0 0 = .inr (j, w1) ∧ suS b n (faS b n 8) 0 (j + 1) = .inr (t, w2) := by
  unfold txS at h
  cases e : suS b n (faS b n 8) 0 0 with
  | inl g => rw [e] at h; exact absurd h (by simp)
  | inr q =>
    rw [e] at h
    dsimp only at h
    by_cases c : pkB b n q.1 = 60 ∨ pkB b n q.1 = 62
    · rw [if_pos c] at h
      cases e2 : suS b n (faS b n 8) 0 (q.1 + 1) with
      | inl g => rw [e2] at h; exact absurd h (by simp)
      | inr t =>
        rw [e2] at h
        dsimp only at h
        by_cases c2 : pkB b n t.1 = -1
        · rw [if_pos c2, Sum.inr.injEq, Prod.mk.injEq, Prod.mk.injEq, Prod.mk.injEq] at h
          obtain ⟨h1, h2, h3, h4⟩ := h
          rw [← h1, ← h2, ← h4]
          exact ⟨t.1, rfl, e2⟩
        · rw [if_neg c2] at h; exact absurd h (by simp)
    · rw [if_neg c] at h; exact absurd h (by simp)
theorem gact_ne (w : Bool) : gact w ≠ gact (!w) ∧ gact w ≠ gact (!w) + 1 ∧ gact w + 1 ≠ gact (!w) ∧ gact w + 1 ≠ gact (!w) + 1 := by cases w <;> decide
/-- both memories ahead of the reference's reading -/
theorem m_begin {I B : gIt} {n nT : Nat} (hn1 : 1 ≤ n) (hn : n ≤ 60) (hnT : n ≤ nT) (hby : ∀ j, j < nT → I 12 j = I 150 j &&& 255) (h150 : B 150 = I 150) : mSt (I 12) n (gu2 (gu2 (gu2 (gu2 (gu2 B 149 1 0) 149 28 0) 149 29 (nI n)) 149 30 0) 149 61 0) ∧ mP (gu2 (gu2 (gu2 (gu2 (gu2 B 149 1 0) 149 28 0) 149 29 (nI n)) 149 30 0) 149 61 0) 0 [] (gu2 (gu2 (gu2 (gu2 (gu2 B 149 1 0) 149 28 0) 149 29 (nI n)) 149 30 0) 149 61 0) := by
  refine ⟨⟨hn, ?_, fun j hj => ?_⟩, ?_, ?_, ?_, fun k hk => absurd hk (Nat.not_lt_zero k), fun _ _ _ _ _ => rfl, fun _ _ _ _ _ _ => rfl, fun _ _ => ⟨rfl, rfl⟩⟩
  · rw [gu_sl, if_neg (by decide), gu_sl, if_neg (by decide), gu_sl, if_pos rfl]
  · rw [gu_rd (by decide), gu_rd (by decide), gu_rd (by decide), gu_rd (by decide), gu_rd (by decide), h150, ← hby j (by omega)]
    refine ⟨rfl, ?_⟩
    rw [hby j (by omega)]
    exact byte_r _
  · rw [gu_sl, if_neg (by decide), gu_sl, if_neg (by decide), gu_sl, if_neg (by decide), gu_sl, if_pos rfl]; rfl
  · rw [gu_sl, if_neg (by decide), gu_sl, if_pos rfl]
  · rw [gu_sl, if_pos rfl]; rfl
theorem m_fr0 {B M : gIt} {v : Int32} (h : mFr (gu2 (gu2 (gu2 (gu2 (gu2 B 149 1 0) 149 28 0) 149 29 v) 149 30 0) 149 61 0) M) : (∀ x, x ≠ 149 → x ≠ 169 → x ≠ 189 → x ≠ 190 → M x = B x) ∧ M 149 1 = 0 ∧ (∀ j, j ≠ 1 → j ≠ 28 → j ≠ 29 → j ≠ 30 → j ≠ 33 → j ≠ 34 → j ≠ 61 → M 149 j = B 149 j) ∧ ∀ k, k < 100 → M 189 k = B 189 k ∧ M 190 k = B 190 k := by
  obtain ⟨h1, h2, h3⟩ := h
  refine ⟨fun x q1 q2 q3 q4 => ?_, ?_, fun j q1 q2 q3 q4 q5 q6 q7 => ?_, fun k hk => ?_⟩
  · rw [h1 x q1 q2 q3 q4, gu2_ne q1, gu2_ne q1, gu2_ne q1, gu2_ne q1, gu2_ne q1]
  · rw [h2 1 (by decide) (by decide) (by decide) (by decide) (by decide), gu_sl, if_neg (by decide), gu_sl, if_neg (by decide), gu_sl, if_neg (by decide), gu_sl, if_neg (by decide), gu_sl, if_pos rfl]
  · rw [h2 j q2 q4 q5 q6 q7, gu_sl, if_neg q7, gu_sl, if_neg q4, gu_sl, if_neg q3, gu_sl, if_neg q2, gu_sl, if_neg q1]
  · have := h3 k hk
    rw [gu_rd (by decide), gu_rd (by decide), gu_rd (by decide), gu_rd (by decide), gu_rd (by decide), gu_rd (by decide), gu_rd (by decide), gu_rd (by decide), gu_rd (by decide), gu_rd (by decide)] at this
    exact this
set_option maxHeartbeats 4000000 in
theorem EE16 : EE_16 gInv := by
  intro I J w x1 hI
  obtain ⟨P, ns, nS, nC, nP, nT, hs, hr⟩ := id hI
  obtain ⟨-, -, -, -, -, -, ⟨t1, t2, t3, -⟩, -⟩ := id hs
  by_cases c : (1 ≤ x1.toInt ∧ x1.toInt ≤ 60) ∧ x1.toInt ≤ nT
  · obtain ⟨n, -, rfl, tn⟩ := i_of (x := x1) (by omega)
    obtain ⟨-, -, hby, -⟩ := id hr
    have hact := hr.2.2.2.2.2.2.2.2
    have ha : gact (!w) = 103 ∨ gact (!w) = 126 := gact_or _
    have hw' : gact w = 103 ∨ gact w = 126 := gact_or _
    obtain ⟨gn1, gn2, gn3, gn4⟩ := gact_ne w
    generalize hA : gact (!w) = a at ha gn1 gn2 gn3 gn4
    generalize hR4 : gu2 (gu2 (gu2 I 11 2 (nI n)) 11 3 0) 11 4 0 = r4
    have r4x : ∀ x, x ≠ 11 → r4 x = I x := fun x hx => by rw [← hR4, gu2_ne hx, gu2_ne hx, gu2_ne hx]
    have s : aSt (I 12) n a r4 := ⟨ha, by omega, by rw [← hR4, gu_sl, if_neg (by decide), gu_sl, if_neg (by decide), gu_sl, if_pos rfl], fun j hj => by
      rw [r4x 12 (by decide)]
      refine ⟨rfl, ?_⟩
      rw [hby j (by omega)]
      exact byte_r _⟩
    have h3 : r4 11 3 = 0 := by rw [← hR4, gu_sl, if_neg (by decide), gu_sl, if_pos rfl]
    have rt := x0_readText s h3
    have cls : p_X11_act I w (nI n) = gB (p_X0_readText r4 a) fun r6 => gL (gu2 r6.2 11 1 (0 : Int32)) fun I8 => if r6.1 = 0 then some ((I8 11 4), I8, w) else gL (!w) fun w10 => gL (gu2 I8 0 12 (1 : Int32)) fun I12 => some ((0 : Int32), I12, w10) := by
      unfold p_X11_act
      rw [if_neg (by rw [Int32.lt_iff_toInt_lt]; simp only [Int32.reduceToInt]; omega), if_neg (by rw [Int32.lt_iff_toInt_lt]; simp only [Int32.reduceToInt]; omega), t1, if_pos (nI_le (by omega) (by omega))]
      unfold p_X10_open
      rw [gL_b, gL_b, gL_b, gB_v, hR4, hA]
    have bx : ∀ r', aFt a r4 r' → ∀ x, x ≠ 11 → x ≠ a → x ≠ a + 1 → r' x = I x := fun r' h x q1 q2 q3 => by rw [h.1 x q1 q2 q3]; exact r4x x q1
    have ref : ∀ B, B 149 1 = nI nT → p_X12_act B (nI n) = (gB (p_X12_expression (gu2 (gu2 (gu2 (gu2 (gu2 B 149 1 0) 149 28 0) 149 29 (nI n)) 149 30 0) 149 61 0)) fun r10 => gB (p_X12_here r10) fun r12 => gB (p_X12_isGood r10) fun r14 => gB (α := gIt) (if r14 = 0 then some r10 else if r12 = (60 : Int32) then some r10 else if r12 = (62 : Int32) then some r10 else gB (p_X12_wrongs r10 (1 : Int32) (r10 149 28)) fun r60 => some r60) fun ph16 => gL (((ph16 149 28) + (1 : Int32))) fun z20 => gL (gu2 ph16 149 28 z20) fun I21 => gB (p_X12_isGood I21) fun r22 => gB (α := gIt) (if r22 = 0 then some I21 else gB (p_X12_expression I21) fun r55 => some r55) fun ph24 => gB (p_X12_isGood ph24) fun r28 => gB (α := gIt) (if r28 = 0 then some ph24 else if (ph24 149 29) ≤ (ph24 149 28) then some ph24 else gB (p_X12_wrongs ph24 (1 : Int32) (ph24 149 28)) fun r52 => some r52) fun ph30 => gB (p_X12_says ph30 r12 (0 : Int32)) fun r34 => if 0 ≤ (r34 149 30) then gL (gu2 r34 149 59 (1 : Int32)) fun I38 => gL ((I38 149 61)) fun z39 => gL (gu2 I38 149 60 z39) fun I40 => p_X12_act_165 (nI n) r12 gFu I40 (0 : Int32) else some ((r34 149 30), r34)) := fun B hB => by
      unfold p_X12_act
      rw [lies_y _ (by simp only [i32_toInt64, Int64.reduceToInt]; omega), if_neg n10, hB, if_pos (nI_le (by omega) (by omega)), gL_b, gL_b, gL_b, gL_b, gL_b]
    cases et : txS (I 12) n with
    | inl g =>
      obtain ⟨r', e', f4', ft⟩ := rt.1 g.1 g.2 et
      have I8x : ∀ x, x ≠ 11 → x ≠ a → x ≠ a + 1 → gu2 r' 11 1 0 x = I x := fun x q1 q2 q3 => by rw [gu2_ne q1]; exact bx r' ft x q1 q2 q3
      have B1 : gu2 r' 11 1 0 149 1 = nI nT := by rw [I8x 149 (by decide) (by omega) (by omega)]; exact t2
      obtain ⟨ms, mp⟩ := m_begin (I := I) (B := gu2 r' 11 1 0) (n := n) (nT := nT) (by omega) (by omega) (by omega) hby (I8x 150 (by decide) (by omega) (by omega))
      obtain ⟨M', eM, fM⟩ := (x12_actW ms (nI n) mp _ rfl).1 g.1 g.2 et
      obtain ⟨m1, m2, m3, m4⟩ := m_fr0 fM
      refine ⟨(-1000 * nI g.1 - nI g.2, gu2 r' 11 1 0, w), ?_, (-1000 * nI g.1 - nI g.2, M'), ?_, rfl, ?_⟩
      · rw [cls, e', gB_v]
        dsimp only
        rw [gL_b, if_pos p00, gu_sl, if_neg (by decide), f4']
      · show p_X12_act (gu2 r' 11 1 0) (nI n) = _
        rw [ref _ B1]
        exact eM
      · have hk : aKp I M' := ⟨fun x q0 q1 q2 q3 q4 q5 q6 q7 q8 q9 => by rw [m1 x q6 q7 q8 q9]; exact I8x x q1 (by rcases ha with z | z <;> rw [z] <;> assumption) (by rcases ha with z | z <;> rw [z] <;> assumption), fun j _ => by rw [m1 0 (by decide) (by decide) (by decide) (by decide), I8x 0 (by decide) (by omega) (by omega)], by rw [m1 11 (by decide) (by decide) (by decide) (by decide), gu_sl, if_pos rfl], m2, fun j q1 q2 q3 q4 q5 q6 q7 q8 q9 => by rw [m3 j q1 q2 q3 q4 q5 q6 q9, I8x 149 (by decide) (by omega) (by omega)]⟩
        have M012 : M' 0 12 = I 0 12 := by rw [m1 0 (by decide) (by decide) (by decide) (by decide), I8x 0 (by decide) (by omega) (by omega)]
        have M59 : M' 149 59 = I 149 59 := by rw [m3 59 (by decide) (by decide) (by decide) (by decide) (by decide) (by decide) (by decide), I8x 149 (by decide) (by omega) (by omega)]
        refine inv_act hs hr hk ⟨by rw [M59, M012]; exact hact.1, ?_⟩ J
        rw [M012]
        rcases hact.2 with z | ⟨z, z'⟩
        · exact Or.inl z
        · refine Or.inr ⟨z, iAct1_q ?_ ?_ (fun k hk => ?_) ?_ z'⟩
          · rw [m1 (gact w) (by omega) (by omega) (by omega) (by omega), I8x (gact w) (by omega) gn1 gn2]
          · rw [m1 (gact w + 1) (by omega) (by omega) (by omega) (by omega), I8x (gact w + 1) (by omega) gn3 gn4]
          · rw [(m4 k hk).1, (m4 k hk).2, I8x 189 (by decide) (by omega) (by omega), I8x 190 (by decide) (by omega) (by omega)]
            exact ⟨rfl, rfl⟩
          · rw [m3 60 (by decide) (by decide) (by decide) (by decide) (by decide) (by decide) (by decide), I8x 149 (by decide) (by omega) (by omega)]
    | inr g =>
      obtain ⟨w1, w2, le, j⟩ := g
      obtain ⟨r', e', ft, q6, q7, q10, qw⟩ := rt.2 w1 w2 le j et
      obtain ⟨t, es1, es2⟩ := txS_r et
      obtain ⟨o1, o2, o3, o4, o5⟩ := suS_ok (b := I 12) (n := n) (F := faS (I 12) n 8) (L := 0) (fun i => faS_ok 8 0 i (by omega)) 0 j w1 es1
      obtain ⟨u1, u2, u3, u4, u5⟩ := suS_ok (b := I 12) (n := n) (F := faS (I 12) n 8) (L := 0) (fun i => faS_ok 8 0 i (by omega)) (j + 1) t w2 es2
      have Bx : ∀ x, x ≠ 0 → x ≠ 11 → x ≠ a → x ≠ a + 1 → gu2 (gu2 r' 11 1 0) 0 12 1 x = I x := fun x q0 q1 q2 q3 => by rw [gu2_ne q0, gu2_ne q1]; exact bx r' ft x q1 q2 q3
      have B1 : gu2 (gu2 r' 11 1 0) 0 12 1 149 1 = nI nT := by rw [Bx 149 (by decide) (by decide) (by omega) (by omega)]; exact t2
      obtain ⟨ms, mp⟩ := m_begin (I := I) (B := gu2 (gu2 r' 11 1 0) 0 12 1) (n := n) (nT := nT) (by omega) (by omega) (by omega) hby (Bx 150 (by decide) (by decide) (by omega) (by omega))
      obtain ⟨M1, hM1, hlen, eM⟩ := (x12_actW ms (nI n) mp _ rfl).2 w1 w2 le j et
      obtain ⟨p1, p2, p3, p4, p5⟩ := hM1
      obtain ⟨m1, m2, m3, m4⟩ := m_fr0 p5
      generalize hW : w1 ++ w2 = W at *
      have e100 : (100 : Int32) + nI W.length = nI (100 + W.length) := nI_add 100 _
      -- the sign is said, then all is copied
      generalize hS : gu2 (gu2 (gu2 M1 189 (100 + W.length) (if le then 60 else 62)) 190 (100 + W.length) 0) 149 61 (nI (W.length + 1)) = S
      have esay : p_X12_says M1 (if le then 60 else 62) 0 = some S := by
        unfold p_X12_says
        rw [x12_good p2, gB_v, if_neg n10, p3, e100, gck_t (gin_nI (by omega) (by omega)), gL_b, gu_rd (by decide), p3, e100, gck_t (gin_nI (by omega) (by omega)), gL_b, nI_clamp (by omega), gu_rd (by decide), gu_rd (by decide), p3, nI_1, gL_b, gL_b, hS]
      have S30 : S 149 30 = 0 := by rw [← hS, gu_sl, if_neg (by decide), gu_rd (by decide), gu_rd (by decide)]; exact p2
      have S61 : S 149 61 = nI (W.length + 1) := by rw [← hS, gu_sl, if_pos rfl]
      have Sx : ∀ x, x ≠ 149 → x ≠ 189 → x ≠ 190 → S x = M1 x := fun x h1 h2 h3 => by rw [← hS, gu2_ne h1, gu2_ne h3, gu2_ne h2]
      have Sj : ∀ j, j ≠ 61 → S 149 j = M1 149 j := fun j hj => by rw [← hS, gu_sl, if_neg hj, gu_rd (by decide), gu_rd (by decide)]
      have S189 : ∀ k, S 189 k = if k = 100 + W.length then (if le then 60 else 62) else M1 189 k := fun k => by rw [← hS, gu_rd (by decide), gu_rd (by decide), gu_sl]
      have S190 : ∀ k, S 190 k = if k = 100 + W.length then 0 else M1 190 k := fun k => by rw [← hS, gu_rd (by decide), gu_sl, gu_rd (by decide)]
      obtain ⟨M', e5, f5, g5⟩ := x12_copy (x1 := nI n) (x2 := if le then 60 else 62) (N := W.length + 1) (by omega) (W.length + 1) gFu 0 (gu2 (gu2 S 149 59 1) 149 60 (nI (W.length + 1))) (by omega) (by unfold gFu; omega) (by rw [gu_sl, if_neg (by decide), gu_sl, if_neg (by decide)]; exact S61)
      have Mx : ∀ x, x ≠ 149 → x ≠ 169 → x ≠ 189 → x ≠ 190 → M' x = gu2 (gu2 r' 11 1 0) 0 12 1 x := fun x h1 h2 h3 h4 => by rw [f5 x h3 h4, gu2_ne h1, gu2_ne h1, Sx x h1 h3 h4]; exact m1 x h1 h2 h3 h4
      have Mj : ∀ j, j ≠ 59 → j ≠ 60 → j ≠ 61 → M' 149 j = M1 149 j := fun j h1 h2 h3 => by rw [f5 149 (by decide) (by decide), gu_sl, if_neg h2, gu_sl, if_neg h1]; exact Sj j h3
      have M59 : M' 149 59 = 1 := by rw [f5 149 (by decide) (by decide), gu_sl, if_neg (by decide), gu_sl, if_pos rfl]
      have M60 : M' 149 60 = nI (W.length + 1) := by rw [f5 149 (by decide) (by decide), gu_sl, if_pos rfl]
      have M012 : M' 0 12 = 1 := by rw [Mx 0 (by decide) (by decide) (by decide) (by decide), gu_sl, if_pos rfl]
      have Ma : M' a = r' a := by rw [Mx a (by omega) (by omega) (by omega) (by omega), gu2_ne (by omega), gu2_ne (by omega)]
      have Ma1 : M' (a + 1) = r' (a + 1) := by rw [Mx (a + 1) (by omega) (by omega) (by omega) (by omega), gu2_ne (by omega), gu2_ne (by omega)]
      refine ⟨(0, gu2 (gu2 r' 11 1 0) 0 12 1, !w), ?_, (0, M'), ?_, rfl, ?_⟩
      · rw [cls, e', gB_v]
        dsimp only
        rw [gL_b, if_neg n10, gL_b, gL_b]
      · show p_X12_act (gu2 (gu2 r' 11 1 0) 0 12 1) (nI n) = _
        rw [ref _ B1, eM, esay, gB_v, S30, if_pos (by decide), gL_b, gL_b, gu_sl, if_neg (by decide), S61, gL_b]
        exact e5
      · have hk : aKp I M' := ⟨fun x q0 q1 q2 q3 q4 q5 q6 q7 q8 q9 => by rw [Mx x q6 q7 q8 q9]; exact Bx x q0 q1 (by rcases ha with z | z <;> rw [z] <;> assumption) (by rcases ha with z | z <;> rw [z] <;> assumption), fun j hj => by rw [Mx 0 (by decide) (by decide) (by decide) (by decide), gu_sl, if_neg hj, gu_rd (by decide), bx r' ft 0 (by decide) (by omega) (by omega)], by rw [Mx 11 (by decide) (by decide) (by decide) (by decide), gu_rd (by decide), gu_sl, if_pos rfl], by rw [Mj 1 (by decide) (by decide) (by decide)]; exact m2, fun j q1 q2 q3 q4 q5 q6 q7 q8 q9 => by rw [Mj j q7 q8 q9, m3 j q1 q2 q3 q4 q5 q6 q9, Bx 149 (by decide) (by decide) (by omega) (by omega)]⟩
        refine inv_act hs hr hk ⟨by rw [M59, M012], Or.inr ⟨M012, ?_⟩⟩ J
        rw [hA]
        have hlW : W.length = w1.length + w2.length := by rw [← hW, List.length_append]
        have f0 : ∀ k, k < W.length → M' (a + 1) k = gtW W k := fun k hk => by rw [Ma1]; exact qw k hk
        have gx0 : gxd (M' (a + 1)) 0 w1.length = some 1 := by
          rw [gxd_rd (V := w1) (fun k hk => by rw [Nat.zero_add, f0 k (by omega), ← hW, gtW_l hk]) w1.length (Nat.le_refl _), List.take_length]
          exact o4 0 (by omega)
        have gx1 : gxd (M' (a + 1)) w1.length w2.length = some 1 := by
          rw [gxd_rd (V := w2) (fun k hk => by rw [f0 _ (by omega), ← hW, gtW_ap]) w2.length (Nat.le_refl _), List.take_length]
          exact u4 0 (by omega)
        have hp0 := gxp_half gx0
        have hp1 := gxp_half gx1
        refine ⟨w1.length, w2.length, by omega, by rw [Ma, q6, hlW], by rw [Ma]; exact q7, ?_, by rw [M60, hlW], fun i hi => ?_, ?_, gx0, gx1, by omega, by omega⟩
        · rw [Ma, q10]
          cases le
          · exact Or.inl rfl
          · exact Or.inr rfl
        · obtain ⟨g1, g2⟩ := g5 i (by omega)
          rw [if_pos (Nat.zero_le _), gu_rd (by decide), gu_rd (by decide), S189, if_neg (by omega), (p4 i (by omega)).1] at g1
          rw [if_pos (Nat.zero_le _), gu_rd (by decide), gu_rd (by decide), S190, if_neg (by omega), (p4 i (by omega)).2] at g2
          rw [f0 i (by omega), g1, g2]
          refine ⟨?_, rfl, rfl⟩
          have := gtW_mem (V := W) (m := i) (by omega)
          rw [← hW, List.mem_append] at this
          rw [hW] at this
          rcases this with z | z
          · exact o5 _ z
          · exact u5 _ z
        · have g1 := (g5 W.length (by omega)).1
          rw [if_pos (Nat.zero_le _), gu_rd (by decide), gu_rd (by decide), S189, if_pos rfl] at g1
          rw [← hlW, g1, Ma, q10]
          cases le <;> rfl
  · refine ⟨(-1, I, w), ?_, (-1, I), ?_, rfl, hI⟩
    · unfold p_X11_act
      rw [t1]
      simp only [Int32.lt_iff_toInt_lt, Int32.le_iff_toInt_le, Int32.reduceToInt, nI_toInt (show nT < 2 ^ 31 by omega)]
      by_cases d1 : x1.toInt < 1
      · rw [if_pos d1]
      · rw [if_neg d1]
        by_cases d2 : 60 < x1.toInt
        · rw [if_pos d2]
        · rw [if_neg d2, if_neg (fun q => c ⟨by omega, by omega⟩)]
    · show p_X12_act I x1 = _
      unfold p_X12_act
      by_cases d1 : 1 ≤ x1.toInt ∧ x1.toInt ≤ 60
      · rw [lies_y _ (by simp only [i32_toInt64, Int64.reduceToInt]; omega), if_neg n10, t2, if_neg (by rw [Int32.le_iff_toInt_le, nI_toInt (by omega)]; exact fun q => c ⟨d1, by omega⟩)]
      · rw [lies_n _ (by simp only [i32_toInt64, Int64.reduceToInt]; omega), if_pos rfl]
