/-! ===== the class reads a settlement's whole text ===== -/
def tFr (a : Nat) (r0 r : gIt) : Prop := (∀ x, x ≠ 11 → (x < a ∨ a + 5 < x) → r x = r0 x) ∧ (∀ j, j ≠ 3 → j ≠ 4 → r 11 j = r0 11 j) ∧ ∀ j, (j < 8 ∨ 12 < j) → r a j = r0 a j
theorem tFr_rf (a : Nat) (r : gIt) : tFr a r r := ⟨fun _ _ _ => rfl, fun _ _ _ => rfl, fun _ _ => rfl⟩
theorem tFr_tr {a : Nat} {A B C : gIt} (h : tFr a A B) (h' : tFr a B C) : tFr a A C := ⟨fun x q1 q2 => (h'.1 x q1 q2).trans (h.1 x q1 q2), fun j q1 q2 => (h'.2.1 j q1 q2).trans (h.2.1 j q1 q2), fun j q => (h'.2.2 j q).trans (h.2.2 j q)⟩
theorem tFr_s {a : Nat} {A B : gIt} (h : sFr a A B) : tFr a A B := ⟨fun x q1 q2 => h.1 x q1 (by omega) (by omega) (by omega) (by omega), h.2.1, fun j q => h.2.2 j (by omega)⟩
theorem sFr_rf (a : Nat) (r : gIt) : sFr a r r := ⟨fun _ _ _ _ _ _ => rfl, fun _ _ _ => rfl, fun _ _ => rfl⟩
def tCS (a : Nat) (r0 : gIt) (i : Nat) (cs : List gCl) (r : gIt) : Prop := sCS a r i (kA cs) (gA cs) (wA cs) [] r ∧ (∀ k, k < cs.length → r (a + 1) k = nI (kA (cs.take (k + 1))).length ∧ r (a + 2) k = nI (wA (cs.take (k + 1))).length) ∧ tFr a r0 r
theorem sSt_b {b : Nat → Int32} {n T a : Nat} {r0 r : gIt} (s : sSt b n T a r0) (h : tFr a r0 r) : sSt b n T a r := by
  obtain ⟨⟨z, hz, e⟩, s2, s3, s4, s5, s6⟩ := s
  exact ⟨⟨z, hz, e⟩, s2, by rw [h.2.1 2 (by decide) (by decide)]; exact s3, fun j hj => by rw [h.1 12 (by decide) (by omega)]; exact s4 j hj, by rw [h.2.2 6 (by omega)]; exact s5, s6⟩
section Sy
variable {b : Nat → Int32} {n T a : Nat} {r0 : gIt}
theorem t_end (s : sSt b n T a r0) {cs : List gCl} {c : gCl} {i j : Nat} {r R : gIt} (ht : tCS a r0 i cs r) (h : sCS a r j (kA (cs ++ [c])) (gA (cs ++ [c])) (wA (cs ++ [c])) [] R) : tCS a r0 j (cs ++ [c]) (gu2 (gu2 (gu2 R (a + 1) cs.length (nI (kA (cs ++ [c])).length)) (a + 2) cs.length (nI (wA (cs ++ [c])).length)) a 8 (nI (cs.length + 1))) ∧ gu2 (gu2 (gu2 R (a + 1) cs.length (nI (kA (cs ++ [c])).length)) (a + 2) cs.length (nI (wA (cs ++ [c])).length)) a 8 (nI (cs.length + 1)) a 8 = nI (cs ++ [c]).length := by
  obtain ⟨n1, n2, n3, n4, n5, n6, n7, n8⟩ := s_ne s
  have n9 : a + 1 ≠ 11 ∧ a + 2 ≠ 11 := by obtain ⟨⟨z, hz, e⟩, -⟩ := s; omega
  obtain ⟨-, tk, tf⟩ := ht
  obtain ⟨h1, ⟨h2, h2'⟩, ⟨h3, h3'⟩, ⟨h4, h4'⟩, h5, h6, h7, f⟩ := h
  have tf2 := tFr_tr tf (tFr_s f)
  generalize hR : gu2 (gu2 (gu2 R (a + 1) cs.length (nI (kA (cs ++ [c])).length)) (a + 2) cs.length (nI (wA (cs ++ [c])).length)) a 8 (nI (cs.length + 1)) = Q
  have qa : ∀ j, j ≠ 8 → Q a j = R a j := fun j hj => by rw [← hR, gu_sl, if_neg hj, gu_rd (by omega), gu_rd (by omega)]
  have qx : ∀ x, x ≠ a → x ≠ a + 1 → x ≠ a + 2 → Q x = R x := fun x q1 q2 q3 => by rw [← hR, gu2_ne q1, gu2_ne q3, gu2_ne q2]
  have q1 : ∀ k, Q (a + 1) k = if k = cs.length then nI (kA (cs ++ [c])).length else R (a + 1) k := fun k => by rw [← hR, gu_rd (by omega), gu_rd (by omega), gu_sl]
  have q2 : ∀ k, Q (a + 2) k = if k = cs.length then nI (wA (cs ++ [c])).length else R (a + 2) k := fun k => by rw [← hR, gu_rd (by omega), gu_sl, gu_rd (by omega)]
  have e11 := qx 11 (Ne.symm n1) (by omega) (by omega)
  refine ⟨⟨⟨by rw [e11]; exact h1, ⟨by rw [qa 10 (by decide)]; exact h2, fun k hk => by rw [qx (a + 5) (by omega) (by omega) (by omega)]; exact h2' k hk⟩, ⟨by rw [qa 9 (by decide)]; exact h3, fun k hk => by rw [qx (a + 3) (by omega) (by omega) (by omega)]; exact h3' k hk⟩, ⟨h4, fun k hk => by rw [qx (a + 4) (by omega) (by omega) (by omega)]; exact h4' k hk⟩, by rw [qa 11 (by decide)]; exact h5, by rw [qa 12 (by decide)]; exact h6, rfl, sFr_rf _ _⟩, fun k hk => ?_, ⟨fun x z1 z2 => by rw [qx x (by omega) (by omega) (by omega)]; exact tf2.1 x z1 z2, fun j z1 z2 => by rw [e11]; exact tf2.2.1 j z1 z2, fun j z => by rw [qa j (by omega)]; exact tf2.2.2 j z⟩⟩, ?_⟩
  · rw [List.length_append, List.length_singleton] at hk
    rw [q1, q2]
    by_cases e : k = cs.length
    · rw [if_pos e, if_pos e, List.take_of_length_le (by rw [List.length_append, List.length_singleton]; omega)]
      exact ⟨rfl, rfl⟩
    · rw [if_neg e, if_neg e, List.take_append_of_le_length (by omega), f.1 (a + 1) (by omega) (by omega) (by omega) (by omega) (by omega), f.1 (a + 2) (by omega) (by omega) (by omega) (by omega) (by omega)]
      exact tk k (by omega)
  · rw [← hR, gu_sl, if_pos rfl, List.length_append, List.length_singleton]
theorem x9_text (s : sSt b n T a r0) : ∀ (m f i : Nat) (cs : List gCl) (r : gIt), cs.length + m = 8 → m < f → i ≤ n → (wA cs).length ≤ i → (kA cs).length ≤ 4 * cs.length → tCS a r0 i cs r → (∀ k p, teL b n T m i cs = .inl (k, p) → ∃ r', p_X9_readText_2 a f r (nI cs.length) = some (0, r') ∧ r' 11 4 = -1000 * nI k - nI p ∧ tFr a r0 r') ∧ ∀ cs', teL b n T m i cs = .inr cs' → ∃ r' j, p_X9_readText_2 a f r (nI cs.length) = some (1, r') ∧ tCS a r0 j cs' r' ∧ r' a 8 = nI cs'.length := by
  intro m
  have hn := s.2.1
  induction m with
  | zero =>
    intro f i cs r hm hf hi hw hk ht
    obtain ⟨f, rfl⟩ : ∃ q, f = q + 1 := ⟨f - 1, by omega⟩
    have sr := sSt_b s ht.2.2
    have hc : nI cs.length = 8 := by rw [show cs.length = 8 by omega]; rfl
    unfold p_X9_readText_2 teL
    rw [hc, if_neg (show ¬ (8 : Int32) < 8 by decide), x9_opens sr ht.1 hi, gB_v]
    refine ⟨fun k p e => ?_, fun cs' e => ?_⟩
    · by_cases c : opT b n i = true
      · rw [if_pos c, Sum.inl.injEq, Prod.mk.injEq] at e
        rw [← e.1, ← e.2, if_pos c, if_neg n10, if_pos rfl]
        obtain ⟨r5, e5, f5⟩ := s_refuse sr ht.1 3
        rw [show p_X10_refuse r 3 = _ from e5, gB_v]
        exact ⟨r5, rfl, f5.1, tFr_tr ht.2.2 (tFr_s f5.2)⟩
      · rw [if_neg c, Sum.inl.injEq, Prod.mk.injEq] at e
        rw [← e.1, ← e.2, if_neg c, if_pos p00]
        obtain ⟨r5, e5, f5⟩ := s_refuse sr ht.1 1
        rw [show p_X10_refuse r 1 = _ from e5, gB_v]
        exact ⟨r5, rfl, f5.1, tFr_tr ht.2.2 (tFr_s f5.2)⟩
    · by_cases c : opT b n i = true
      · rw [if_pos c] at e; exact absurd e (by simp)
      · rw [if_neg c] at e; exact absurd e (by simp)
  | succ m ih =>
    intro f i cs r hm hf hi hw hk ht
    obtain ⟨f, rfl⟩ : ∃ q, f = q + 1 := ⟨f - 1, by omega⟩
    have sr := sSt_b s ht.2.2
    unfold p_X9_readText_2 teL
    rw [if_neg (show ¬ (8 : Int32) < nI cs.length from nI_nlt (a := 8) (by omega) (by omega)), x9_opens sr ht.1 hi, gB_v]
    by_cases c : opT b n i = true
    · rw [if_pos c, if_pos c, if_neg n10, if_neg (show ¬ nI cs.length = (8 : Int32) from fun q => by have := (nI_eq (b := 8) (by omega) (by omega)).mp q; omega)]
      -- what follows a clause
      have tail : ∀ (j : Nat) (cl : gCl) (R : gIt), okL n i j cl → sCS a r j (kA (cs ++ [cl])) (gA (cs ++ [cl])) (wA (cs ++ [cl])) [] R → ∀ X, X = (gL ((R a 9)) fun z12 => gck (gin (nI cs.length) 8) (gL (gu2 R ((a + 1)) (nI cs.length).toNatClampNeg z12) fun I14 => gL ((I14 a 10)) fun z15 => gck (gin (nI cs.length) 8) (gL (gu2 I14 ((a + 2)) (nI cs.length).toNatClampNeg z15) fun I17 => gL ((nI cs.length + (1 : Int32))) fun z18 => gL (gu2 I17 a 8 z18) fun I19 => gB (p_X10_peek I19) fun r20 => if r20 = (-1 : Int32) then some ((1 : Int32), I19) else gB (p_X10_take I19 (59 : Int32)) fun r23 => if r23.1 = 0 then gB (p_X10_refuse r23.2 (1 : Int32)) fun r26 => gck (gbo r26.1) (some (r26.1, r26.2)) else p_X9_readText_2 a f r23.2 (nI cs.length + (1 : Int32))))) → (∀ k p, (if pkB b n j = -1 then .inr (cs ++ [cl]) else if pkB b n j = 59 then teL b n T m (j + 1) (cs ++ [cl]) else .inl (1, j) : (Nat × Nat) ⊕ List gCl) = .inl (k, p) → ∃ r', X = some (0, r') ∧ r' 11 4 = -1000 * nI k - nI p ∧ tFr a r0 r') ∧ ∀ cs', (if pkB b n j = -1 then .inr (cs ++ [cl]) else if pkB b n j = 59 then teL b n T m (j + 1) (cs ++ [cl]) else .inl (1, j) : (Nat × Nat) ⊕ List gCl) = .inr cs' → ∃ r' j, X = some (1, r') ∧ tCS a r0 j cs' r' ∧ r' a 8 = nI cs'.length := by
        intro j cl R hok hR X hX
        obtain ⟨te, t8⟩ := t_end s ht hR
        have st := sSt_b s te.2.2
        obtain ⟨⟨k1, k2, k3, k4, k5, -⟩, k6, -⟩ := hok
        rw [hX, gL_b, gck_t (gin_nI (by omega) (by omega)), gL_b, gu_rd (by omega), hR.2.2.1.1, hR.2.1.1, gL_b, gck_t (gin_nI (by omega) (by omega)), gL_b, nI_1, gL_b, gL_b, nI_clamp (by omega)]
        generalize gu2 (gu2 (gu2 R (a + 1) cs.length (nI (kA (cs ++ [cl])).length)) (a + 2) cs.length (nI (wA (cs ++ [cl])).length)) a 8 (nI (cs.length + 1)) = Q at te t8 st
        rw [s_peek st te.1 k2, gB_v]
        by_cases d1 : pkB b n j = -1
        · rw [if_pos d1, if_pos d1]
          refine ⟨fun k p e => by exact absurd e (by simp), fun cs' e => ?_⟩
          rw [Sum.inr.injEq] at e
          rw [← e]
          exact ⟨Q, j, rfl, te, t8⟩
        · rw [if_neg d1, if_neg d1]
          rcases s_take st te.1 k2 59 with ⟨t, r3, e3, c3⟩ | ⟨t, e3⟩
          · have hlt := pkB_lt (b := b) (n := n) (i := j) (by rw [t]; decide)
            rw [if_pos t, e3, gB_v]
            dsimp only
            rw [if_neg n10]
            have hl : (cs ++ [cl]).length = cs.length + 1 := by rw [List.length_append]; rfl
            rw [← hl]
            have f3 := c3.2.2.2.2.2.2.2
            have tc3 : tCS a r0 (j + 1) (cs ++ [cl]) r3 := ⟨⟨c3.1, c3.2.1, c3.2.2.1, c3.2.2.2.1, c3.2.2.2.2.1, c3.2.2.2.2.2.1, rfl, sFr_rf _ _⟩, fun k hk => by
              rw [f3.1 (a + 1) (by obtain ⟨⟨z, hz, e⟩, -⟩ := s; omega) (by omega) (by omega) (by omega) (by omega), f3.1 (a + 2) (by obtain ⟨⟨z, hz, e⟩, -⟩ := s; omega) (by omega) (by omega) (by omega) (by omega)]
              exact te.2.1 k hk, tFr_tr te.2.2 (tFr_s f3)⟩
            exact ih f (j + 1) (cs ++ [cl]) r3 (by omega) (by omega) (by omega) (by rw [wA_a, List.length_append]; omega) (by rw [kA_a, List.length_append, hl]; omega) tc3
          · obtain ⟨r5, e5, f5⟩ := s_refuse st te.1 1
            rw [if_neg t, e3, gB_v]
            dsimp only
            rw [if_pos p00, show p_X10_refuse Q 1 = _ from e5, gB_v]
            refine ⟨fun k p e => ?_, fun cs' e => by exact absurd e (by simp)⟩
            rw [Sum.inl.injEq, Prod.mk.injEq] at e
            rw [← e.1, ← e.2]
            exact ⟨r5, rfl, f5.1, tFr_tr te.2.2 (tFr_s f5.2)⟩
      have hsh := x9_shares sr (K := kA cs) (G := gA cs) (W := wA cs) (by omega) 4 gFu i [] [] r (by omega) (by unfold gFu; omega) rfl hi (by rw [List.append_nil, List.append_nil]; exact ht.1)
      unfold p_X9_readShares
      have eC : ∀ q, clS b n T i = .inr q → okL n i q.1 q.2 := fun q e => clS_ok e
      have flt : ∀ {k p : Nat} {X : Option (Int32 × gIt)}, (∃ r', X = some (0, r') ∧ sFl a r k p r') → (∀ k' p', (.inl (k, p) : (Nat × Nat) ⊕ List gCl) = .inl (k', p') → ∃ r', X = some (0, r') ∧ r' 11 4 = -1000 * nI k' - nI p' ∧ tFr a r0 r') ∧ ∀ cs', (.inl (k, p) : (Nat × Nat) ⊕ List gCl) = .inr cs' → ∃ r' j, X = some (1, r') ∧ tCS a r0 j cs' r' ∧ r' a 8 = nI cs'.length := fun ⟨r', e1, f1⟩ => ⟨fun k' p' e => by
        rw [Sum.inl.injEq, Prod.mk.injEq] at e
        rw [← e.1, ← e.2]
        exact ⟨r', e1, f1.1, tFr_tr ht.2.2 (tFr_s f1.2)⟩, fun cs' e => by exact absurd e (by simp)⟩
      unfold clS at eC ⊢
      cases eF : tkL b n T 4 i [] [] with
      | inl g =>
        obtain ⟨r2, e2, f2⟩ := hsh.1 g.1 g.2 eF
        rw [show p_X9_readShares_2 a gFu r 0 = _ from e2, gB_v]
        exact flt ⟨r2, rfl, f2⟩
      | inr t =>
        obtain ⟨r2, e2, c2⟩ := hsh.2 t.1 t.2.1 t.2.2 eF
        obtain ⟨t1, t2, -⟩ := tkL_ok (b := b) (n := n) (T := T) (i0 := i) 4 i [] [] (Nat.le_refl _) rfl (by decide) (fun w h => absurd h (by simp)) (fun w h => absurd h (by simp)) t.1 t.2.1 t.2.2 eF
        rw [eF] at eC
        dsimp only at eC ⊢
        rw [show p_X9_readShares_2 a gFu r 0 = _ from e2, gB_v]
        dsimp only
        rw [if_neg n10]
        rcases s_take sr c2 t2 40 with ⟨z, r3, e3, c3⟩ | ⟨z, e3⟩
        · have hlt := pkB_lt (b := b) (n := n) (i := t.1) (by rw [z]; decide)
          rw [if_pos z] at eC ⊢
          rw [e3, gB_v]
          dsimp only
          rw [if_neg n10]
          have hp := x9_ei sr (L := 1) (P := p_X9_readPiece 8) (F := piS b n T 8) (fun i => piS_ok 8 1 i (by omega)) (x9_piece sr 8 1 (by omega) (by omega)) (W := wA cs) (i := t.1 + 1) (by omega) (by omega) c3
          cases eG : eiS b n (piS b n T 8) 1 (t.1 + 1) with
          | inl g =>
            obtain ⟨r4, e4, f4⟩ := hp.1 g.1 g.2 eG
            rw [show p_X9_readEither (p_X9_readPiece 8) r3 a 1 = _ from e4, gB_v]
            exact flt ⟨r4, rfl, f4⟩
          | inr g =>
            obtain ⟨r4, e4, c4⟩ := hp.2 g.1 g.2 eG
            obtain ⟨o1, o2, o3, -, -⟩ := eiS_ok (b := b) (F := piS b n T 8) (L := 1) (fun i => piS_ok 8 1 i (by omega)) (t.1 + 1) g.1 g.2 eG
            rw [eG] at eC
            dsimp only at eC ⊢
            rw [show p_X9_readEither (p_X9_readPiece 8) r3 a 1 = _ from e4, gB_v]
            dsimp only
            rw [if_neg n10]
            rcases x9_closes sr c4 o2 with ⟨y, r5, e5, c5⟩ | ⟨y, r5, e5, f5⟩
            · rw [if_pos y] at eC ⊢
              rw [e5, gB_v]
              dsimp only
              rw [if_neg n10]
              exact tail (g.1 + 1) (t.2.1, t.2.2, g.2) r5 (eC _ rfl) (by rw [kA_a, gA_a, wA_a]; exact c5) _ rfl
            · rw [if_neg y] at eC ⊢
              rw [e5, gB_v]
              exact flt ⟨r5, rfl, f5⟩
        · rw [if_neg z] at eC ⊢
          rw [e3, gB_v]
          dsimp only
          rw [if_pos p00]
          exact tail t.1 (t.2.1, t.2.2, []) r2 (eC _ rfl) (by rw [kA_a, gA_a, wA_a, List.append_nil]; exact c2) _ rfl
    · rw [if_neg c, if_neg c, if_pos p00]
      obtain ⟨r5, e5, f5⟩ := s_refuse sr ht.1 1
      rw [show p_X10_refuse r 1 = _ from e5, gB_v]
      refine ⟨fun k p e => ?_, fun cs' e => by exact absurd e (by simp)⟩
      rw [Sum.inl.injEq, Prod.mk.injEq] at e
      rw [← e.1, ← e.2]
      exact ⟨r5, rfl, f5.1, tFr_tr ht.2.2 (tFr_s f5.2)⟩
end Sy
