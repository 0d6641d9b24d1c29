/-! ===== settle ===== -/
theorem mk_0 (B : Nat) : mkS 0 B [] [] [] := fun o ho => by
  have e : (0 : Int32) = nI 0 := rfl
  rw [e, ush1_1 (by omega) (by omega), Nat.zero_testBit]
  simp
set_option maxHeartbeats 4000000 in
theorem EE8 : EE_8 gInv := by
  intro I J w x1 x2 x3 x4 hI
  obtain ⟨P, ns, nS, nC, nP, nT, hs, hr⟩ := id hI
  obtain ⟨-, ⟨p1, p2, p3⟩, ⟨s1, s2, s3⟩, -, -, -, ⟨t1, t2, t3, -⟩, -⟩ := id hs
  obtain ⟨-, -, hby, -⟩ := id hr
  by_cases c : (1 ≤ x1.toInt ∧ x1.toInt ≤ 100000) ∧ (0 ≤ x2.toInt ∧ x2.toInt < P) ∧ (0 ≤ x3.toInt ∧ x3.toInt ≤ 3) ∧ (1 ≤ x4.toInt ∧ x4.toInt ≤ 100) ∧ x4.toInt ≤ nT ∧ ns < 10
  · obtain ⟨cx1, cx2, cx3, cx4, cx5, cns⟩ := c
    obtain ⟨n, -, rfl, tn⟩ := i_of (x := x4) (by omega)
    obtain ⟨T, -, rfl, tT⟩ := i_of (x := x2) (by omega)
    have hn100 : n ≤ 100 := by omega
    have hTP : T < P := by omega
    generalize hA : 14 + 6 * ns = a
    have ha : 14 ≤ a ∧ a + 5 ≤ 73 := by omega
    generalize hR3 : gu2 (gu2 (gu2 (gu2 (gu2 (gu2 (gu2 (gu2 I a 5 x1) a 6 (nI T)) a 7 x3) a 8 0) a 9 0) a 10 0) a 11 0) a 12 0 = r3
    have r3x : ∀ x, x ≠ a → r3 x = I x := fun x hx => by rw [← hR3, gu2_ne hx, gu2_ne hx, gu2_ne hx, gu2_ne hx, gu2_ne hx, gu2_ne hx, gu2_ne hx, gu2_ne hx]
    have r3a : r3 a 5 = x1 ∧ r3 a 6 = nI T ∧ r3 a 7 = x3 ∧ r3 a 8 = 0 ∧ r3 a 9 = 0 ∧ r3 a 10 = 0 ∧ r3 a 11 = 0 ∧ r3 a 12 = 0 := by
      rw [← hR3]
      simp only [gu_sl]
      simp
    generalize hR4 : gu2 (gu2 (gu2 r3 11 2 (nI n)) 11 3 0) 11 4 0 = r4
    have r4x : ∀ x, x ≠ 11 → r4 x = r3 x := fun x hx => by rw [← hR4, gu2_ne hx, gu2_ne hx, gu2_ne hx]
    have r4I : ∀ x, x ≠ 11 → x ≠ a → r4 x = I x := fun x h1 h2 => by rw [r4x x h1, r3x x h2]
    have r4a := r4x a (by omega)
    have r42 : r4 11 2 = nI n := by rw [← hR4, gu_sl, if_neg (by decide), gu_sl, if_neg (by decide), gu_sl, if_pos rfl]
    have r43 : r4 11 3 = 0 := by rw [← hR4, gu_sl, if_neg (by decide), gu_sl, if_pos rfl]
    obtain ⟨a5, a6, a7, a8, a9, a10, a11, a12⟩ := r3a
    have s : sSt (I 12) n T a r4 := ⟨⟨ns, cns, hA.symm⟩, hn100, r42, fun j hj => by
      rw [r4I 12 (by decide) (by omega)]
      refine ⟨rfl, ?_⟩
      rw [hby j (by omega)]
      exact byte_r _, by rw [r4a]; exact a6, by omega⟩
    have tc0 : tCS a r4 0 [] r4 := ⟨⟨r43, ⟨by rw [r4a]; exact a10, fun k hk => absurd hk (Nat.not_lt_zero k)⟩, ⟨by rw [r4a]; exact a9, fun k hk => absurd hk (Nat.not_lt_zero k)⟩, ⟨rfl, fun k hk => absurd hk (Nat.not_lt_zero k)⟩, by rw [r4a, a11]; exact mk_0 0, by rw [r4a, a12]; exact mk_0 16, rfl, sFr_rf _ _⟩, fun k hk => absurd hk (Nat.not_lt_zero k), tFr_rf _ _⟩
    obtain ⟨rt1, rt2⟩ := x9_text s 8 gFu 0 [] r4 rfl (by unfold gFu; omega) (Nat.zero_le _) (Nat.le_refl _) (Nat.le_refl _) tc0
    have cls : p_X11_settle I x1 (nI T) x3 (nI n) = gB (p_X9_readText_2 a gFu r4 0) fun r17 => gL (gu2 r17.2 11 1 (0 : Int32)) fun I19 => if r17.1 = 0 then some ((I19 11 4), I19) else gL (((I19 0 13) + (1 : Int32))) fun z21 => gL (gu2 I19 0 13 z21) fun I22 => some (((I22 0 13) - (1 : Int32)), I22) := by
      unfold p_X11_settle
      rw [if_neg (show ¬ x1 < 1 by rw [Int32.lt_iff_toInt_lt]; simp only [Int32.reduceToInt]; omega), if_neg (show ¬ (100000 : Int32) < x1 by rw [Int32.lt_iff_toInt_lt]; simp only [Int32.reduceToInt]; omega), x7_has I p3 p1, if_pos cx2, gB_v, if_neg n10, if_neg (show ¬ x3 < 0 by rw [Int32.lt_iff_toInt_lt]; simp only [Int32.reduceToInt]; omega), if_pos (show x3 < 4 by rw [Int32.lt_iff_toInt_lt]; simp only [Int32.reduceToInt]; omega), if_neg (show ¬ nI n < 1 by rw [Int32.lt_iff_toInt_lt]; simp only [Int32.reduceToInt]; omega), if_neg (show ¬ (100 : Int32) < nI n by rw [Int32.lt_iff_toInt_lt]; simp only [Int32.reduceToInt]; omega), t1, if_neg (nI_nlt (by omega) (by omega)), s1, if_pos (show nI ns < (10 : Int32) from nI_lt (b := 10) cns (by omega)), gck_t (gin_nI (by omega) (by omega)), nI_clamp (by omega), hA]
      unfold p_X9_begin p_X10_open p_X9_readText
      rw [gL_b, gL_b, gL_b, gL_b, gL_b, gL_b, gL_b, gL_b, gB_v, hR3, gL_b, gL_b, gL_b, gB_v, hR4]
    -- the reference, from any state behind the class
    have ref : ∀ B : gIt, (∀ x, x ≠ 0 → x ≠ 11 → (x < a ∨ a + 5 < x) → B x = I x) → p_X12_settle B x1 (nI T) x3 (nI n) = p_X12_settle_104 x1 (nI T) x3 (nI n) gFu (gu2 (gu2 (gu2 (gu2 (gu2 (gu2 (gu2 B 149 1 0) 149 28 0) 149 29 (nI n)) 149 30 0) 149 31 0) 149 32 0) 149 35 (nI T)) 1 := fun B hB => by
      have e149 := hB 149 (by decide) (by decide) (by omega)
      unfold p_X12_settle
      rw [e149, s2, if_neg (show ¬ nI ns = (10 : Int32) from fun q => by have := (nI_eq (b := 10) (by omega) (by omega)).mp q; omega), lies_y _ (by simp only [i32_toInt64, Int64.reduceToInt]; omega), if_neg n10, x12_isPerson B p3 (by rw [e149]; exact p2), if_pos cx2, gB_v, if_neg n10, lies_y _ (by simp only [i32_toInt64, Int64.reduceToInt]; omega), if_neg n10, lies_y _ (by simp only [i32_toInt64, Int64.reduceToInt]; omega), if_neg n10, t2, if_pos (nI_le (by omega) (by omega)), gL_b, gL_b, gL_b, gL_b, gL_b, gL_b, gL_b]
    have base : ∀ B : gIt, (∀ x, x ≠ 0 → x ≠ 11 → (x < a ∨ a + 5 < x) → B x = I x) → ∃ M0 : gIt, M0 = gu2 (gu2 (gu2 (gu2 (gu2 (gu2 (gu2 B 149 1 0) 149 28 0) 149 29 (nI n)) 149 30 0) 149 31 0) 149 32 0) 149 35 (nI T) ∧ qSt (I 12) n T ns M0 ∧ uS ns M0 0 [] M0 ∧ (∀ x, x ≠ 149 → M0 x = B x) ∧ M0 149 1 = 0 ∧ (∀ j, j ≠ 1 → (j < 28 ∨ 35 < j) → M0 149 j = I 149 j) := fun B hB => by
      have e149 := hB 149 (by decide) (by decide) (by omega)
      have mx : ∀ x, x ≠ 149 → gu2 (gu2 (gu2 (gu2 (gu2 (gu2 (gu2 B 149 1 0) 149 28 0) 149 29 (nI n)) 149 30 0) 149 31 0) 149 32 0) 149 35 (nI T) x = B x := fun x hx => by rw [gu2_ne hx, gu2_ne hx, gu2_ne hx, gu2_ne hx, gu2_ne hx, gu2_ne hx, gu2_ne hx]
      refine ⟨_, rfl, ⟨⟨hn100, ?_, fun j hj => ?_, ?_, by omega⟩, cns, ?_⟩, ⟨?_, ?_, ?_, ⟨?_, fun k hk => absurd hk (Nat.not_lt_zero k)⟩, fun k hk => absurd hk (Nat.not_lt_zero k), fun _ _ _ => rfl, fun _ _ => rfl, fun _ _ => ⟨rfl, rfl, rfl⟩, fun _ _ => ⟨rfl, rfl, rfl⟩, fun _ _ => ⟨rfl, rfl⟩⟩, mx, ?_, fun j h1 h2 => ?_⟩
      · rw [gu_sl, if_neg (by decide), gu_sl, if_neg (by decide), gu_sl, if_neg (by decide), gu_sl, if_neg (by decide), gu_sl, if_pos rfl]
      · rw [mx 150 (by decide), hB 150 (by decide) (by decide) (by omega), ← hby j (by omega)]
        refine ⟨rfl, ?_⟩
        rw [hby j (by omega)]
        exact byte_r _
      · rw [gu_sl, if_pos rfl]
      · rw [gu_sl, if_neg (by decide), gu_sl, if_neg (by decide), gu_sl, if_neg (by decide), gu_sl, if_neg (by decide), gu_sl, if_neg (by decide), gu_sl, if_neg (by decide), gu_sl, if_neg (by decide), e149]; exact s2
      · rw [gu_sl, if_neg (by decide), gu_sl, if_neg (by decide), gu_sl, if_neg (by decide), gu_sl, if_neg (by decide), gu_sl, if_neg (by decide), gu_sl, if_pos rfl]; rfl
      · rw [gu_sl, if_neg (by decide), gu_sl, if_neg (by decide), gu_sl, if_neg (by decide), gu_sl, if_pos rfl]
      · rw [gu_sl, if_neg (by decide), gu_sl, if_neg (by decide), gu_sl, if_pos rfl]; rfl
      · rw [gu_sl, if_neg (by decide), gu_sl, if_pos rfl]; rfl
      · rw [gu_sl, if_neg (by decide), gu_sl, if_neg (by decide), gu_sl, if_neg (by decide), gu_sl, if_neg (by decide), gu_sl, if_neg (by decide), gu_sl, if_neg (by decide), gu_sl, if_pos rfl]
      · rw [gu_sl, if_neg (by omega), gu_sl, if_neg (by omega), gu_sl, if_neg (by omega), gu_sl, if_neg (by omega), gu_sl, if_neg (by omega), gu_sl, if_neg (by omega), gu_sl, if_neg (by omega), e149]
    have bx : ∀ r', tFr a r4 r' → ∀ x, x ≠ 11 → (x < a ∨ a + 5 < x) → r' x = I x := fun r' h x q1 q2 => by rw [h.1 x q1 q2]; exact r4I x q1 (by omega)
    -- what is kept
    have keep : ∀ (B M0 M : gIt), (∀ x, x ≠ 0 → x ≠ 11 → (x < a ∨ a + 5 < x) → B x = I x) → (∀ j, j ≠ 13 → B 0 j = I 0 j) → B 11 1 = 0 → (∀ x, x ≠ 149 → M0 x = B x) → M0 149 1 = 0 → (∀ j, j ≠ 1 → (j < 28 ∨ 35 < j) → M0 149 j = I 149 j) → uFr ns M0 M → sKp I M ns := by
      intro B M0 M hB hB0 hB1 m1 m2 m3 hu
      obtain ⟨u1, u2, u3, u4, u5⟩ := hu
      have f : ∀ x, x ≠ 0 → x ≠ 11 → x ≠ 149 → (x < a ∨ a + 5 < x) → M0 x = I x := fun x q0 q1 q2 q3 => by rw [m1 x q2]; exact hB x q0 q1 q3
      refine ⟨fun x q0 q1 q2 q3 q4 => by rw [u1 x q2 (by omega)]; exact f x q0 q1 q2 (by omega), fun j hj => by rw [u1 0 (by decide) (by omega), m1 0 (by decide)]; exact hB0 j hj, ⟨by rw [u1 11 (by decide) (by omega), m1 11 (by decide)]; exact hB1, by rw [u2 1 (by omega)]; exact m2⟩, fun j q1 q2 q3 => by rw [u2 j (by omega)]; exact m3 j q1 q3, fun k hk => ?_, fun k hk => ?_, fun k hk => ?_, fun k hk => ?_⟩
      · rw [u1 157 (by decide) (by omega), u1 158 (by decide) (by omega), u1 159 (by decide) (by omega), u1 160 (by decide) (by omega), f 157 (by decide) (by decide) (by decide) (by omega), f 158 (by decide) (by decide) (by decide) (by omega), f 159 (by decide) (by decide) (by decide) (by omega), f 160 (by decide) (by decide) (by decide) (by omega)]
        exact ⟨rfl, rfl, rfl, rfl⟩
      · obtain ⟨z1, z2, z3⟩ := u3 k hk
        rw [z1, z2, z3, f 161 (by decide) (by decide) (by decide) (by omega), f 162 (by decide) (by decide) (by decide) (by omega), f 163 (by decide) (by decide) (by decide) (by omega)]
        exact ⟨rfl, rfl, rfl⟩
      · obtain ⟨z1, z2, z3⟩ := u4 k hk
        rw [z1, z2, z3, f 164 (by decide) (by decide) (by decide) (by omega), f 165 (by decide) (by decide) (by decide) (by omega), f 166 (by decide) (by decide) (by decide) (by omega)]
        exact ⟨rfl, rfl, rfl⟩
      · obtain ⟨z1, z2⟩ := u5 k hk
        rw [z1, z2, f 167 (by decide) (by decide) (by decide) (by omega), f 168 (by decide) (by decide) (by decide) (by omega)]
        exact ⟨rfl, rfl⟩
    cases et : teL (I 12) n T 8 0 [] with
    | inl g =>
      obtain ⟨r', e', f4', ft⟩ := rt1 g.1 g.2 et
      have hB : ∀ x, x ≠ 0 → x ≠ 11 → (x < a ∨ a + 5 < x) → gu2 r' 11 1 0 x = I x := fun x q0 q1 q2 => by rw [gu2_ne q1]; exact bx r' ft x q1 q2
      have hB0 : ∀ j, gu2 r' 11 1 0 0 j = I 0 j := fun j => by rw [gu_rd (by decide), bx r' ft 0 (by decide) (by omega)]
      obtain ⟨M0, eM0, st, us, m1, m2, m3⟩ := base _ hB
      obtain ⟨M', e2, hu⟩ := (q_settle st x1 (nI T) x3 (nI n) 8 gFu 0 [] M0 rfl (by unfold gFu; omega) (Nat.zero_le _) (Nat.le_refl _) us).1 g.1 g.2 et
      refine ⟨(-1000 * nI g.1 - nI g.2, gu2 r' 11 1 0), ?_, (-1000 * nI g.1 - nI g.2, M'), ?_, rfl, ?_⟩
      · rw [cls, show p_X9_readText_2 a gFu r4 0 = _ from e', gB_v]
        dsimp only
        rw [gL_b, if_pos p00, gu_sl, if_neg (by decide), f4']
      · show p_X12_settle (gu2 r' 11 1 0) x1 (nI T) x3 (nI n) = _
        rw [ref _ hB, ← eM0]
        exact e2
      · refine inv_set hs hr cns (keep _ M0 M' hB (fun j _ => hB0 j) (by rw [gu_sl, if_pos rfl]) m1 m2 m3 hu) (ns' := ns) ?_ ?_ (Nat.le_refl _) (by omega) (fun z h1 h2 => by omega) J
        · rw [hu.1 0 (by decide) (by omega), m1 0 (by decide), hB0]; exact s1
        · rw [hu.2.1 4 (by omega), m3 4 (by decide) (by omega)]; exact s2
    | inr cs =>
      obtain ⟨r', j, e', tc, t8⟩ := rt2 cs et
      obtain ⟨l1, l8, lw, lok⟩ := teL_ok (b := I 12) (n := n) (T := T) 8 0 [] cs rfl (Nat.zero_le _) (Nat.le_refl _) (fun c hc => absurd hc (by simp)) et
      have ft := tc.2.2
      have r013 : gu2 r' 11 1 0 0 13 = nI ns := by rw [gu_rd (by decide), bx r' ft 0 (by decide) (by omega)]; exact s1
      generalize hBB : gu2 (gu2 r' 11 1 0) 0 13 (nI (ns + 1)) = B
      have hB : ∀ x, x ≠ 0 → x ≠ 11 → (x < a ∨ a + 5 < x) → B x = I x := fun x q0 q1 q2 => by rw [← hBB, gu2_ne q0, gu2_ne q1]; exact bx r' ft x q1 q2
      have hBr : ∀ x, x ≠ 0 → x ≠ 11 → B x = r' x := fun x q0 q1 => by rw [← hBB, gu2_ne q0, gu2_ne q1]
      have hB0 : ∀ j, B 0 j = if j = 13 then nI (ns + 1) else I 0 j := fun j => by rw [← hBB, gu_sl, gu_rd (by decide), bx r' ft 0 (by decide) (by omega)]
      obtain ⟨M0, eM0, st, us, m1, m2, m3⟩ := base _ hB
      obtain ⟨N, j', e2, hN⟩ := (q_settle st x1 (nI T) x3 (nI n) 8 gFu 0 [] M0 rfl (by unfold gFu; omega) (Nat.zero_le _) (Nat.le_refl _) us).2 cs et
      have hu := hN.2.2.2.2.2
      have kN := keep B M0 N hB (fun j hj => by rw [hB0, if_neg hj]) (by rw [← hBB, gu_rd (by decide), gu_sl, if_pos rfl]) m1 m2 m3 hu
      generalize hM : sEn ns cs.length x1 (nI T) x3 N = M at e2
      have Mx : ∀ x, x ≠ 149 → (x < 157 ∨ 160 < x) → M x = N x := fun x q1 q2 => by rw [← hM]; unfold sEn; rw [gu2_ne q1, gu2_ne (by omega), gu2_ne (by omega), gu2_ne (by omega), gu2_ne (by omega)]
      have M149 : ∀ k, M 149 k = if k = 4 then nI (ns + 1) else N 149 k := fun k => by rw [← hM]; unfold sEn; rw [gu_sl, gu_rd (by decide), gu_rd (by decide), gu_rd (by decide), gu_rd (by decide)]
      have M157 : ∀ k, M 157 k = if k = ns then x1 else N 157 k := fun k => by rw [← hM]; unfold sEn; rw [gu_rd (by decide), gu_rd (by decide), gu_rd (by decide), gu_rd (by decide), gu_sl]
      have M158 : ∀ k, M 158 k = if k = ns then nI T else N 158 k := fun k => by rw [← hM]; unfold sEn; rw [gu_rd (by decide), gu_rd (by decide), gu_rd (by decide), gu_sl, gu_rd (by decide)]
      have M159 : ∀ k, M 159 k = if k = ns then x3 else N 159 k := fun k => by rw [← hM]; unfold sEn; rw [gu_rd (by decide), gu_rd (by decide), gu_sl, gu_rd (by decide), gu_rd (by decide)]
      have M160 : ∀ k, M 160 k = if k = ns then nI cs.length else N 160 k := fun k => by rw [← hM]; unfold sEn; rw [gu_rd (by decide), gu_sl, gu_rd (by decide), gu_rd (by decide), gu_rd (by decide)]
      refine ⟨(nI ns, B), ?_, (nI ns, M), ?_, rfl, ?_⟩
      · rw [cls, show p_X9_readText_2 a gFu r4 0 = _ from e', gB_v]
        dsimp only
        rw [gL_b, if_neg n10, r013, nI_1, gL_b, gL_b, hBB, hB0, if_pos rfl, nI_back]
      · show p_X12_settle B x1 (nI T) x3 (nI n) = _
        rw [ref _ hB, ← eM0]
        exact e2
      · obtain ⟨k1, k2, ⟨k3, k4⟩, k5, k6, k7, k8, k9⟩ := kN
        have kM : sKp I M ns := by
          refine ⟨fun x q0 q1 q2 q3 q4 => by rw [Mx x q2 (by omega)]; exact k1 x q0 q1 q2 q3 q4, fun j hj => by rw [Mx 0 (by decide) (by omega)]; exact k2 j hj, ⟨by rw [Mx 11 (by decide) (by omega)]; exact k3, by rw [M149, if_neg (by decide)]; exact k4⟩, fun j q1 q2 q3 => by rw [M149, if_neg q2]; exact k5 j q1 q2 q3, fun k hk => by rw [M157, M158, M159, M160, if_neg (by omega), if_neg (by omega), if_neg (by omega), if_neg (by omega)]; exact k6 k hk, fun k hk => by rw [Mx 161 (by decide) (by omega), Mx 162 (by decide) (by omega), Mx 163 (by decide) (by omega)]; exact k7 k hk, fun k hk => by rw [Mx 164 (by decide) (by omega), Mx 165 (by decide) (by omega), Mx 166 (by decide) (by omega)]; exact k8 k hk, fun k hk => by rw [Mx 167 (by decide) (by omega), Mx 168 (by decide) (by omega)]; exact k9 k hk⟩
        refine inv_set hs hr cns kM (ns' := ns + 1) ?_ (by rw [M149, if_pos rfl]) (by omega) (by omega) (fun z h1 h2 => ?_) J
        · rw [Mx 0 (by decide) (by omega), hu.1 0 (by decide) (by omega), m1 0 (by decide), hB0, if_pos rfl]
        · have hz : z = ns := by omega
          rw [hz]
          rw [← hA] at tc t8
          refine iSet1_new (T := T) (x1 := x1) (x3 := x3) hn100 cx1 hTP cx3 (fun x h1 h2 => ?_) tc t8 ?_ ?_ ?_ l1 l8 lw lok hN (by rw [M157, if_pos rfl]) (by rw [M158, if_pos rfl]) (by rw [M159, if_pos rfl]) (by rw [M160, if_pos rfl]) (fun x h1 h2 => Mx x (by omega) (by omega))
          · rw [Mx x (by omega) (by omega), hu.1 x (by omega) (by omega), m1 x (by omega), hBr x (by omega) (by omega)]
          · rw [hA, ft.2.2 5 (by omega), r4a]; exact a5
          · rw [hA, ft.2.2 6 (by omega), r4a]; exact a6
          · rw [hA, ft.2.2 7 (by omega), r4a]; exact a7
  · refine ⟨(-1, I), ?_, (-1, I), ?_, rfl, hI⟩
    · unfold p_X11_settle
      rw [x7_has I p3 p1, t1, s1]
      simp only [Int32.lt_iff_toInt_lt, Int32.reduceToInt, nI_toInt (show nT < 2 ^ 31 by omega), nI_toInt (show ns < 2 ^ 31 by omega)]
      by_cases d1 : x1.toInt < 1
      · rw [if_pos d1]
      · rw [if_neg d1]
        by_cases d2 : 100000 < x1.toInt
        · rw [if_pos d2]
        · rw [if_neg d2, gB_v]
          by_cases d3 : 0 ≤ x2.toInt ∧ x2.toInt < P
          · rw [if_pos d3, if_neg n10]
            by_cases d4 : x3.toInt < 0
            · rw [if_pos d4]
            · rw [if_neg d4]
              by_cases d5 : x3.toInt < 4
              · rw [if_pos d5]
                by_cases d6 : x4.toInt < 1
                · rw [if_pos d6]
                · rw [if_neg d6]
                  by_cases d7 : 100 < x4.toInt
                  · rw [if_pos d7]
                  · rw [if_neg d7]
                    by_cases d8 : (nT : Int) < x4.toInt
                    · rw [if_pos d8]
                    · rw [if_neg d8, if_neg (fun q => c ⟨by omega, d3, by omega, by omega, by omega, by omega⟩)]
              · rw [if_neg d5]
          · rw [if_neg d3, if_pos p00]
    · show p_X12_settle I x1 x2 x3 x4 = _
      unfold p_X12_settle
      rw [s2, t2, x12_isPerson I p3 p2]
      by_cases d0 : ns = 10
      · rw [if_pos (show nI ns = (10 : Int32) by rw [d0]; rfl)]
      · rw [if_neg (show ¬ nI ns = (10 : Int32) from fun q => by have := (nI_eq (b := 10) (by omega) (by omega)).mp q; omega)]
        by_cases d1 : 1 ≤ x1.toInt ∧ x1.toInt ≤ 100000
        · rw [lies_y _ (by simp only [i32_toInt64, Int64.reduceToInt]; omega), if_neg n10, gB_v]
          by_cases d3 : 0 ≤ x2.toInt ∧ x2.toInt < P
          · rw [if_pos d3, if_neg n10]
            by_cases d4 : 0 ≤ x3.toInt ∧ x3.toInt ≤ 3
            · rw [lies_y _ (by simp only [i32_toInt64, Int64.reduceToInt]; omega), if_neg n10]
              by_cases d5 : 1 ≤ x4.toInt ∧ x4.toInt ≤ 100
              · rw [lies_y _ (by simp only [i32_toInt64, Int64.reduceToInt]; omega), if_neg n10, if_neg (by rw [Int32.le_iff_toInt_le, nI_toInt (by omega)]; exact fun q => c ⟨d1, d3, d4, d5, by omega, by omega⟩)]
              · rw [lies_n _ (by simp only [i32_toInt64, Int64.reduceToInt]; omega), if_pos p00]
            · rw [lies_n _ (by simp only [i32_toInt64, Int64.reduceToInt]; omega), if_pos p00]
          · rw [if_neg d3, if_pos p00]
        · rw [lies_n _ (by simp only [i32_toInt64, Int64.reduceToInt]; omega), if_pos p00]
