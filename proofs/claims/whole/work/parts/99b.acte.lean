/-! ===== act ===== -/
def mP (M0 : gIt) (i : Nat) (W : List Int32) (M : gIt) : Prop := M 149 28 = nI i ∧ M 149 30 = 0 ∧ M 149 61 = nI W.length ∧ (∀ k, k < W.length → M 189 (100 + k) = gxc (gtW W k) ∧ M 190 (100 + k) = gxa (gtW W k)) ∧ mFr M0 M
theorem mP_of {M0 M : gIt} {i L : Nat} {σ W : List Int32} (h : mS M0 i L σ W M) : mP M0 i W M := ⟨h.1, h.2.1, h.2.2.2.2.2.1, h.2.2.2.2.2.2.1, h.2.2.2.2.2.2.2⟩
theorem mP_clr {M0 M : gIt} {i : Nat} {W : List Int32} (h : mP M0 i W M) : mS M0 i 0 [] W (gu2 (gu2 M 149 34 0) 149 33 0) := by
  obtain ⟨h1, h2, h3, h4, f1, f2, f3⟩ := h
  exact ⟨by rw [gu_sl, if_neg (by decide), gu_sl, if_neg (by decide)]; exact h1, by rw [gu_sl, if_neg (by decide), gu_sl, if_neg (by decide)]; exact h2, by rw [gu_sl, if_pos rfl]; rfl, by rw [gu_sl, if_neg (by decide), gu_sl, if_pos rfl]; rfl, trivial, by rw [gu_sl, if_neg (by decide), gu_sl, if_neg (by decide)]; exact h3, fun k hk => by rw [gu_rd (by decide), gu_rd (by decide), gu_rd (by decide), gu_rd (by decide)]; exact h4 k hk, fun x q1 q2 q3 q4 => by rw [gu2_ne q1, gu2_ne q1]; exact f1 x q1 q2 q3 q4, fun j q1 q2 q3 q4 q5 => by rw [gu_sl, if_neg q3, gu_sl, if_neg q4]; exact f2 j q1 q2 q3 q4 q5, fun k hk => by rw [gu_rd (by decide), gu_rd (by decide), gu_rd (by decide), gu_rd (by decide)]; exact f3 k hk⟩
theorem op_nil : ¬ isOp (tpS []) := by
  show ¬ isOp 0
  unfold isOp
  decide
theorem m_expr {b : Nat → Int32} {n : Nat} {M0 : gIt} (s : mSt b n M0) {i : Nat} {W : List Int32} {M : gIt} (hi : i ≤ n) (hW : W.length ≤ i) (h : mP M0 i W M) : (∀ k p, suS b n (faS b n 8) 0 i = .inl (k, p) → ∃ M', p_X12_expression M = some M' ∧ mF M0 k p M') ∧ ∀ j ws, suS b n (faS b n 8) 0 i = .inr (j, ws) → ∃ M', p_X12_expression M = some M' ∧ mS M0 j 0 [] (W ++ ws) M' := by
  have hn := s.1
  have hc := mP_clr h
  have hp := m_sum s (L := 0) (F := faS b n 8) (fun i => faS_ok 8 0 i (by omega)) (m_factor s 8 0 (by omega) (by omega)) (σ := []) (W := W) op_nil hi hW (Nat.zero_le _) hc
  have ex : p_X12_expression M = p_X12_expression_14 gFu (gu2 (gu2 M 149 34 0) 149 33 0) 1 1 := by unfold p_X12_expression; rw [gL_b, gL_b]
  rw [ex]
  refine ⟨fun k p e => ?_, fun j ws e => ?_⟩
  · obtain ⟨q, M', hq, hf, e'⟩ := hp.1 k p e
    refine ⟨M', ?_, hf⟩
    have := e' (gFu - q)
    rw [show gFu - q + q = gFu by unfold gFu; omega] at this
    exact this
  · obtain ⟨z42, zsm, M4, π, ws4, ⟨k4, hk4, s4⟩, e4, p4, l4, c4⟩ := hp.2 j ws e
    obtain ⟨o1, o2, o3, -, -⟩ := suS_ok (b := b) (F := faS b n 8) (L := 0) (fun i => faS_ok 8 0 i (by omega)) i j ws e
    have hwl : ws4.length + π.length = ws.length := by rw [e4, List.length_append, List.length_map]
    obtain ⟨M5, e5, c5⟩ := m_end (M0 := M0) (L := 0) (σ := []) (W := W) (j := j) (ws' := ws4) (π := π) (M := M4) op_nil p4 (by rw [List.length_append, List.length_nil]; omega) (by rw [List.length_append]; omega) c4
    rw [← e4] at c5
    obtain ⟨no1, no2⟩ := no_op z42 zsm
    have hh4 := x12_hereA s (i := j) (by omega) c4.1 c4.2.2.2.2.2.2.2
    refine ⟨M5, ?_, c5⟩
    have := s4 (gFu - k4)
    rw [show gFu - k4 + k4 = gFu by unfold gFu; omega] at this
    rw [this, show gFu - k4 = (gFu - k4 - 2) + 1 + 1 by unfold gFu; omega, ex_n c4.2.1 hh4, if_neg no1, if_neg no2, if_neg (fun q => q.2 (by rw [c4.2.2.1]; decide)), e5, gB_v, if_pos (by rw [c5.2.2.1]; decide), ex_0 c5.2.1]
/-! words and their depth -/
theorem rdW_bind : ∀ (u v : List Int32) (d : Nat), rdW d (u ++ v) = (rdW d u).bind (fun e => rdW e v) := by
  intro u
  induction u with
  | nil => intro v d; rfl
  | cons w r ih =>
    intro v d
    rw [List.cons_append, rdW_c, rdW_c]
    by_cases c : w = -6 ∨ w = -7 ∨ w = -8
    · rw [if_pos c, if_pos c]
      by_cases q : 2 ≤ d
      · rw [if_pos q, if_pos q]; exact ih v _
      · rw [if_neg q, if_neg q]; rfl
    · rw [if_neg c, if_neg c]
      by_cases q : d < 16
      · rw [if_pos q, if_pos q]; exact ih v _
      · rw [if_neg q, if_neg q]; rfl
theorem gtW_take {V : List Int32} {m : Nat} (h : m < V.length) : V.take (m + 1) = V.take m ++ [gtW V m] := by
  unfold gtW
  rw [List.take_add_one, List.getElem?_eq_getElem h]
  rfl
theorem gxd_rd {f : Nat → Int32} {i : Nat} {V : List Int32} (hf : ∀ k, k < V.length → f (i + k) = gtW V k) : ∀ m, m ≤ V.length → gxd f i m = rdW 0 (V.take m) := by
  intro m
  induction m with
  | zero => intro _; rfl
  | succ m ih =>
    intro hm
    rw [gtW_take (by omega), rdW_bind, ← ih (by omega)]
    show (gxd f i m).bind _ = _
    congr 1
    funext d
    rw [hf m (by omega), rdW_c]
    rfl
theorem gxp_half {f : Nat → Int32} {i : Nat} : ∀ {n d : Nat}, gxd f i n = some d → 2 * gxp f i n ≤ n + d := by
  intro n
  induction n with
  | zero => intro d _; unfold gxp; omega
  | succ n ih =>
    intro d h
    obtain ⟨d', e⟩ := gxd_pre h
    have := ih e
    have hg : gxp f i (n + 1) = gxp f i n + if f (i + n) = -1 then 1 else 0 := rfl
    rcases gxd_step h e with ⟨hc, h2, h3⟩ | ⟨h6, h7, h8, h9, h3⟩
    · have : ¬ f (i + n) = -1 := by rcases hc with q | q | q <;> rw [q] <;> decide
      rw [hg, if_neg this]
      omega
    · rw [hg]
      by_cases q : f (i + n) = -1
      · rw [if_pos q]; omega
      · rw [if_neg q]; omega
theorem gtW_mem {V : List Int32} {m : Nat} (h : m < V.length) : gtW V m ∈ V := by
  unfold gtW
  rw [List.getElem?_eq_getElem h]
  exact List.getElem_mem h
theorem gtW_ap {V U : List Int32} {k : Nat} : gtW (V ++ U) (V.length + k) = gtW U k := by
  unfold gtW
  rw [List.getElem?_append_right (by omega), show V.length + k - V.length = k by omega]
/-- the act of another call, by its cells -/
theorem iAct1_q {I I' : gIt} {a : Nat} (h1 : I' a = I a) (h2 : I' (a + 1) = I (a + 1)) (h3 : ∀ k, k < 100 → I' 189 k = I 189 k ∧ I' 190 k = I 190 k) (h5 : I' 149 60 = I 149 60) (q : iAct1 I a) : iAct1 I' a := by
  obtain ⟨x, y, hxy, e6, e7, e10, e60, hcd, el, q1, q2, q3, q4⟩ := q
  unfold iAct1
  rw [h1, h2, h5]
  exact ⟨x, y, hxy, e6, e7, e10, e60, fun i hi => by rw [(h3 i (by omega)).1, (h3 i (by omega)).2]; exact hcd i hi, by rw [(h3 (x + y) (by omega)).1]; exact el, q1, q2, q3, q4⟩
/-- all but the act: what a reading leaves -/
def aKp (I M : gIt) : Prop := (∀ x, x ≠ 0 → x ≠ 11 → x ≠ 103 → x ≠ 104 → x ≠ 126 → x ≠ 127 → x ≠ 149 → x ≠ 169 → x ≠ 189 → x ≠ 190 → M x = I x) ∧ (∀ j, j ≠ 12 → M 0 j = I 0 j) ∧ M 11 1 = 0 ∧ M 149 1 = 0 ∧ (∀ j, j ≠ 1 → j ≠ 28 → j ≠ 29 → j ≠ 30 → j ≠ 33 → j ≠ 34 → j ≠ 59 → j ≠ 60 → j ≠ 61 → M 149 j = I 149 j)
theorem inv_act {I M : gIt} {w w' : Bool} {P ns nS nC nP nT : Nat} (hs : iScal I P ns nS nC nP nT) (hr : iRest I w P ns nS nC nP nT) (hk : aKp I M) (hact : M 149 59 = M 0 12 ∧ (M 0 12 = 0 ∨ (M 0 12 = 1 ∧ iAct1 M (gact w')))) (J : gJt) : gInv M J w' := by
  obtain ⟨k1, k2, k3, k4, k5⟩ := hk
  obtain ⟨⟨y1, y2, y3⟩, ⟨b1, b1', b1''⟩, ⟨b2, b2', b2''⟩, ⟨b3, b3', b3''⟩, ⟨b4, b4', b4''⟩, ⟨b5, b5', b5''⟩, -, ⟨b7, b7'⟩, ⟨b8, b8'⟩⟩ := hs
  obtain ⟨r1, r2, r3, r4, r5, r6, r7, r8, r9⟩ := hr
  have e : ∀ x, (1 ≤ x ∧ x ≤ 10) ∨ (12 ≤ x ∧ x ≤ 102) ∨ (150 ≤ x ∧ x ≤ 168) ∨ (174 ≤ x ∧ x ≤ 188) ∨ 191 ≤ x → M x = I x := fun x hx => k1 x (by omega) (by omega) (by omega) (by omega) (by omega) (by omega) (by omega) (by omega) (by omega) (by omega)
  have c : ∀ j, (2 ≤ j ∧ j ≤ 9) → M 149 j = I 149 j := fun j hj => k5 j (by omega) (by omega) (by omega) (by omega) (by omega) (by omega) (by omega) (by omega) (by omega)
  have y14 : M 0 14 = I 0 14 := k2 14 (by decide)
  refine ⟨P, ns, nS, nC, nP, 0, ⟨⟨by rw [c 2 (by omega), y14]; exact y1, by rw [y14]; exact y2, by rw [y14]; exact y3⟩, ⟨by rw [e 1 (by omega)]; exact b1, by rw [c 3 (by omega)]; exact b1', b1''⟩, ⟨by rw [k2 13 (by decide)]; exact b2, by rw [c 4 (by omega)]; exact b2', b2''⟩, ⟨by rw [e 84 (by omega)]; exact b3, by rw [c 5 (by omega)]; exact b3', b3''⟩, ⟨by rw [e 95 (by omega)]; exact b4, by rw [c 6 (by omega)]; exact b4', b4''⟩, ⟨by rw [e 1 (by omega)]; exact b5, by rw [c 7 (by omega)]; exact b5', b5''⟩, ⟨k3, k4, by omega, rfl⟩, ⟨by rw [c 8 (by omega), e 9 (by omega)]; exact b7, by rw [e 9 (by omega)]; exact b7'⟩, ⟨by rw [c 9 (by omega), k2 15 (by decide)]; exact b8, by rw [k2 15 (by decide)]; exact b8'⟩⟩, fun o ho => iPer1_c (fun x hx => e x (by omega)) (by rw [y14]; exact Int.le_refl _) (r1 o ho), fun k i hk hi => iTab1_c (e 10 (by omega)) (e 156 (by omega)) (r2 k i hk hi), fun j hj => absurd hj (Nat.not_lt_zero j), fun i hi => iSal1_c (fun x hx => e x (by omega)) (by rw [y14]; exact Int.le_refl _) (Nat.le_refl _) (Nat.le_refl _) b2'' (r4 i hi), fun i hi => iChg1_c (fun x hx => e x (by omega)) (Nat.le_refl _) (Nat.le_refl _) (r5 i hi), fun k hk => ?_, fun o ho => iPap1_c (e 7 (by omega)) (e 8 (by omega)) (e 192 (by omega)) (e 193 (by omega)) (r7 o ho), fun s hs => iSet1_c (fun x hx => e x (by omega)) (Nat.le_refl _) (by omega) (r8 s hs), hact⟩
  rw [e 192 (by omega), e 193 (by omega)]
  exact r6 k hk
theorem byte_r (x : Int32) : 0 ≤ (x &&& 255).toInt ∧ (x &&& 255).toInt ≤ 255 := by
  obtain ⟨j, hj, e⟩ := pk_andE x (m := 255) 8 (by decide)
  rw [e, nI_toInt (by omega)]
  omega
/-- the whole text: a fault, or both sides, and which sign -/
def txS (b : Nat → Int32) (n : Nat) : (Nat × Nat) ⊕ (List Int32 × List Int32 × Bool × Nat) := match suS b n (faS b n 8) 0 0 with
  | .inl f => .inl f
  | .inr q => if pkB b n q.1 = 60 ∨ pkB b n q.1 = 62 then (match suS b n (faS b n 8) 0 (q.1 + 1) with | .inl f => .inl f | .inr t => if pkB b n t.1 = -1 then .inr (q.2, t.2, decide (pkB b n q.1 = 60), q.1) else .inl (1, t.1)) else .inl (1, q.1)
theorem aFr_rf (a : Nat) (r : gIt) : aFr a r r := ⟨fun _ _ _ _ => rfl, fun _ _ _ => rfl, fun _ _ => rfl⟩
/-- frames for the whole text: of the act's fields 6, 7, 10 may change -/
def aFt (a : Nat) (r0 r : gIt) : Prop := (∀ x, x ≠ 11 → x ≠ a → x ≠ a + 1 → r x = r0 x) ∧ (∀ j, j ≠ 3 → j ≠ 4 → r 11 j = r0 11 j)
theorem aFt_tr {a : Nat} {A B C : gIt} (h : aFt a A B) (h' : aFt a B C) : aFt a A C := ⟨fun x q1 q2 q3 => (h'.1 x q1 q2 q3).trans (h.1 x q1 q2 q3), fun j q1 q2 => (h'.2 j q1 q2).trans (h.2 j q1 q2)⟩
theorem aFt_r {a : Nat} {A B : gIt} (h : aFr a A B) : aFt a A B := ⟨h.1, h.2.1⟩
theorem aFt_w {a : Nat} (n1 : a ≠ 11) (A : gIt) (j : Nat) (v : Int32) : aFt a A (gu2 A a j v) := ⟨fun x q1 q2 q3 => gu2_ne q2, fun j' q1 q2 => by rw [gu_rd (Ne.symm n1)]⟩
theorem aSt_b {b : Nat → Int32} {n a : Nat} {r0 r : gIt} (s : aSt b n a r0) (h : aFt a r0 r) : aSt b n a r := by
  obtain ⟨n1, n2, n3, n4, n5⟩ := a_ne s
  exact ⟨s.1, s.2.1, by rw [h.2 2 (by decide) (by decide)]; exact s.2.2.1, fun j hj => by rw [h.1 12 (by decide) (Ne.symm n2) (Ne.symm n4)]; exact s.2.2.2 j hj⟩
theorem aCS_b {a : Nat} {r0 r : gIt} {i : Nat} {W : List Int32} (h : aCS a r0 i W r) : aCS a r i W r := ⟨h.1, h.2.1, h.2.2.1, rfl, aFr_rf a r⟩
theorem aCS_f {b : Nat → Int32} {n a : Nat} {r0 r1 r : gIt} {i : Nat} {W : List Int32} (s : aSt b n a r0) (h : aCS a r1 i W r) {j : Nat} (hj : j ≠ 6) (v : Int32) : aCS a (gu2 r a j v) i W (gu2 r a j v) := by
  obtain ⟨n1, n2, n3, n4, n5⟩ := a_ne s
  exact ⟨by rw [gu_rd (Ne.symm n1)]; exact h.1, by rw [gu_sl, if_neg (Ne.symm hj)]; exact h.2.1, fun k hk => by rw [gu_rd n5]; exact h.2.2.1 k hk, rfl, aFr_rf _ _⟩
def aEnd (b : Nat → Int32) (n a : Nat) (r0 : gIt) (g : (Nat × Nat) ⊕ (List Int32 × List Int32 × Bool × Nat)) (res : Option (Int32 × gIt)) : Prop := (∀ k p, g = .inl (k, p) → ∃ r', res = some (0, r') ∧ r' 11 4 = -1000 * nI k - nI p ∧ aFt a r0 r') ∧ ∀ w1 w2 le j, g = .inr (w1, w2, le, j) → ∃ r', res = some (1, r') ∧ aFt a r0 r' ∧ r' a 6 = nI (w1 ++ w2).length ∧ r' a 7 = nI w1.length ∧ r' a 10 = (if le then 1 else 0) ∧ ∀ k, k < (w1 ++ w2).length → r' (a + 1) k = gtW (w1 ++ w2) k
theorem aEnd_l {b : Nat → Int32} {n a : Nat} {r0 : gIt} {k p : Nat} {res : Option (Int32 × gIt)} (h : ∃ r', res = some (0, r') ∧ r' 11 4 = -1000 * nI k - nI p ∧ aFt a r0 r') : aEnd b n a r0 (.inl (k, p)) res := ⟨fun k' p' e => by
  rw [Sum.inl.injEq, Prod.mk.injEq] at e
  rw [← e.1, ← e.2]
  exact h, fun w1 w2 le j e => by exact absurd e (by simp)⟩
theorem x0_rest {b : Nat → Int32} {n a : Nat} {r0 R3 : gIt} (s3 : aSt b n a R3) (f3 : aFt a r0 R3) {j1 : Nat} {ws1 : List Int32} (hj : j1 < n) (hl : ws1.length ≤ j1) (c4 : aCS a R3 (j1 + 1) ws1 R3) (e7 : R3 a 7 = nI ws1.length) {le : Bool} (e10 : R3 a 10 = if le then 1 else 0) : aEnd b n a r0 (match suS b n (faS b n 8) 0 (j1 + 1) with | .inl f => .inl f | .inr t => if pkB b n t.1 = -1 then .inr (ws1, t.2, le, j1) else .inl (1, t.1)) (gB (p_X0_readSum (p_X0_readFactor 8) R3 a (0 : Int32)) fun r24 => if r24.1 = 0 then some ((0 : Int32), r24.2) else gB (p_X10_peek r24.2) fun r27 => if r27 = (-1 : Int32) then some ((1 : Int32), r24.2) else gB (p_X10_refuse r24.2 (1 : Int32)) fun r30 => if r30.1 = 0 then some ((0 : Int32), r30.2) else some ((1 : Int32), r30.2)) := by
  have hn := s3.2.1
  have p2 := x0_sum s3 (L := 0) (P := p_X0_readFactor 8) (F := faS b n 8) (fun i => faS_ok 8 0 i (by omega)) (x0_factor s3 8 0 (by omega) (by omega)) (W := ws1) (i := j1 + 1) (by omega) (by omega) c4
  have ok2 := suS_ok (b := b) (n := n) (F := faS b n 8) (L := 0) (fun i => faS_ok 8 0 i (by omega)) (j1 + 1)
  cases eG : suS b n (faS b n 8) 0 (j1 + 1) with
  | inl t =>
    obtain ⟨r5, e5, f5⟩ := p2.1 t.1 t.2 eG
    rw [show p_X0_readSum (p_X0_readFactor 8) R3 a 0 = _ from e5, gB_v]
    exact aEnd_l ⟨r5, rfl, f5.1, aFt_tr f3 (aFt_r f5.2)⟩
  | inr t =>
    obtain ⟨r5, e5, c5⟩ := p2.2 t.1 t.2 eG
    obtain ⟨o1', o2', -, -, -⟩ := ok2 t.1 t.2 eG
    rw [show p_X0_readSum (p_X0_readFactor 8) R3 a 0 = _ from e5, gB_v]
    dsimp only
    rw [if_neg n10, x10_peek s3 c5 o2', gB_v]
    by_cases cc : pkB b n t.1 = -1
    · rw [if_pos cc, if_pos cc]
      refine ⟨fun k p e => by exact absurd e (by simp), fun w1 w2 le' j e => ?_⟩
      rw [Sum.inr.injEq, Prod.mk.injEq, Prod.mk.injEq, Prod.mk.injEq] at e
      obtain ⟨ea, eb, ec, ed⟩ := e
      subst ea eb ec ed
      exact ⟨r5, rfl, aFt_tr f3 (aFt_r c5.2.2.2.2), c5.2.1, by rw [c5.2.2.2.2.2.2 7 (by decide)]; exact e7, by rw [c5.2.2.2.2.2.2 10 (by decide)]; exact e10, c5.2.2.1⟩
    · rw [if_neg cc, if_neg cc]
      obtain ⟨r6, e6, f6⟩ := x10_refuse s3 c5 1
      rw [show p_X10_refuse r5 1 = _ from e6, gB_v]
      exact aEnd_l ⟨r6, rfl, f6.1, aFt_tr f3 (aFt_r f6.2)⟩
theorem x0_readText {b : Nat → Int32} {n a : Nat} {r0 : gIt} (s : aSt b n a r0) (h3 : r0 11 3 = 0) : aEnd b n a r0 (txS b n) (p_X0_readText r0 a) := by
  obtain ⟨n1, n2, n3, n4, n5⟩ := a_ne s
  have hn := s.2.1
  have f1 : aFt a r0 (gu2 r0 a 6 0) := aFt_w n1 r0 6 0
  have s1 := aSt_b s f1
  have c0 : aCS a (gu2 r0 a 6 0) 0 [] (gu2 r0 a 6 0) := ⟨by rw [gu_rd (Ne.symm n1)]; exact h3, by rw [gu_sl, if_pos rfl]; rfl, fun k hk => absurd hk (Nat.not_lt_zero k), rfl, aFr_rf _ _⟩
  have p1 := x0_sum s1 (L := 0) (P := p_X0_readFactor 8) (F := faS b n 8) (fun i => faS_ok 8 0 i (by omega)) (x0_factor s1 8 0 (by omega) (by omega)) (W := []) (i := 0) (by omega) (Nat.le_refl _) c0
  have ok1 := suS_ok (b := b) (n := n) (F := faS b n 8) (L := 0) (fun i => faS_ok 8 0 i (by omega)) 0
  unfold p_X0_readText txS
  rw [gL_b]
  cases eF : suS b n (faS b n 8) 0 0 with
  | inl g =>
    obtain ⟨r2, e2, f2⟩ := p1.1 g.1 g.2 eF
    rw [show p_X0_readSum (p_X0_readFactor 8) (gu2 r0 a 6 0) a 0 = _ from e2, gB_v]
    exact aEnd_l ⟨r2, rfl, f2.1, aFt_tr f1 (aFt_r f2.2)⟩
  | inr q =>
    obtain ⟨r2, e2, c2⟩ := p1.2 q.1 q.2 eF
    obtain ⟨o1, o2, o3, -, -⟩ := ok1 q.1 q.2 eF
    rw [List.nil_append] at c2
    rw [show p_X0_readSum (p_X0_readFactor 8) (gu2 r0 a 6 0) a 0 = _ from e2, gB_v]
    dsimp only
    rw [if_neg n10, c2.2.1, gL_b, gL_b]
    have f2 := aFt_tr (aFt_tr f1 (aFt_r c2.2.2.2.2)) (aFt_w n1 r2 7 (nI q.2.length))
    have s2 := aSt_b s f2
    have c3 := aCS_f s c2 (j := 7) (by decide) (nI q.2.length)
    have e7 : gu2 r2 a 7 (nI q.2.length) a 7 = nI q.2.length := by rw [gu_sl, if_pos rfl]
    generalize gu2 r2 a 7 (nI q.2.length) = R2 at f2 s2 c3 e7 ⊢
    rcases x10_take s2 c3 o2 60 with ⟨q6, r6, e6, c6⟩ | ⟨q6, e6⟩
    · have hlt := pkB_lt (b := b) (n := n) (i := q.1) (by rw [q6]; decide)
      rw [if_pos (Or.inl q6), e6, gB_v]
      dsimp only
      rw [gck_t (show gbo (1 : Int32) = true from rfl), gL_b, gu_sl, if_pos rfl, if_neg n10]
      have f3 := aFt_tr (aFt_tr f2 (aFt_r c6.2.2.2.2)) (aFt_w n1 r6 10 1)
      have := x0_rest (r0 := r0) (aSt_b s f3) f3 hlt (by omega) (aCS_f s c6 (j := 10) (by decide) 1) (by rw [gu_sl, if_neg (by decide), c6.2.2.2.2.2.2 7 (by decide)]; exact e7) (le := decide (pkB b n q.1 = 60)) (by rw [gu_sl, if_pos rfl, decide_eq_true q6]; rfl)
      exact this
    · rw [e6, gB_v]
      dsimp only
      rw [gck_t (show gbo (0 : Int32) = true from rfl), gL_b, gu_sl, if_pos rfl, if_pos p00]
      have f3 := aFt_tr f2 (aFt_w n1 R2 10 0)
      have s3 := aSt_b s f3
      have c4 := aCS_f s c3 (j := 10) (by decide) 0
      have e7' : gu2 R2 a 10 0 a 7 = nI q.2.length := by rw [gu_sl, if_neg (by decide)]; exact e7
      have e10' : gu2 R2 a 10 0 a 10 = 0 := by rw [gu_sl, if_pos rfl]
      generalize gu2 R2 a 10 0 = R3 at f3 s3 c4 e7' e10' ⊢
      rcases x10_take s3 c4 o2 62 with ⟨q7, r7, e8, c7⟩ | ⟨q7, e8⟩
      · have hlt := pkB_lt (b := b) (n := n) (i := q.1) (by rw [q7]; decide)
        rw [if_pos (Or.inr q7), e8, gB_v]
        dsimp only
        rw [if_neg n10]
        have f4 := aFt_tr f3 (aFt_r c7.2.2.2.2)
        exact x0_rest (r0 := r0) (aSt_b s f4) f4 hlt (by omega) (aCS_b c7) (by rw [c7.2.2.2.2.2.2 7 (by decide)]; exact e7') (le := decide (pkB b n q.1 = 60)) (by rw [c7.2.2.2.2.2.2 10 (by decide), e10', decide_eq_false q6]; rfl)
      · have nn : ¬ (pkB b n q.1 = 60 ∨ pkB b n q.1 = 62) := fun z => by
          rcases z with z | z
          · exact q6 z
          · exact q7 z
        obtain ⟨r7, e9, f7⟩ := x10_refuse s3 c4 1
        rw [if_neg nn, e8, gB_v]
        dsimp only
        rw [if_pos p00, show p_X10_refuse R3 1 = _ from e9, gB_v]
        exact aEnd_l ⟨r7, rfl, f7.1, aFt_tr f3 (aFt_r f7.2)⟩
/-! the reference: the whole text -/
theorem x12_actW {b : Nat → Int32} {n : Nat} {M0 : gIt} (s : mSt b n M0) (x1 : Int32) (h : mP M0 0 [] M0) : ∀ R, R = (gB (p_X12_expression M0) fun r10 => gB (p_X12_here r10) fun r12 => gB (p_X12_isGood r10) fun r14 => gB (α := gIt) (if r14 = 0 then some r10 else if r12 = (60 : Int32) then some r10 else if r12 = (62 : Int32) then some r10 else gB (p_X12_wrongs r10 (1 : Int32) (r10 149 28)) fun r60 => some r60) fun ph16 => gL (((ph16 149 28) + (1 : Int32))) fun z20 => gL (gu2 ph16 149 28 z20) fun I21 => gB (p_X12_isGood I21) fun r22 => gB (α := gIt) (if r22 = 0 then some I21 else gB (p_X12_expression I21) fun r55 => some r55) fun ph24 => gB (p_X12_isGood ph24) fun r28 => gB (α := gIt) (if r28 = 0 then some ph24 else if (ph24 149 29) ≤ (ph24 149 28) then some ph24 else gB (p_X12_wrongs ph24 (1 : Int32) (ph24 149 28)) fun r52 => some r52) fun ph30 => gB (p_X12_says ph30 r12 (0 : Int32)) fun r34 => if 0 ≤ (r34 149 30) then gL (gu2 r34 149 59 (1 : Int32)) fun I38 => gL ((I38 149 61)) fun z39 => gL (gu2 I38 149 60 z39) fun I40 => p_X12_act_165 x1 r12 gFu I40 (0 : Int32) else some ((r34 149 30), r34)) → (∀ k p, txS b n = .inl (k, p) → ∃ M', R = some (-1000 * nI k - nI p, M') ∧ mFr M0 M') ∧ ∀ w1 w2 le j, txS b n = .inr (w1, w2, le, j) → ∃ M1, mP M0 n (w1 ++ w2) M1 ∧ (w1 ++ w2).length ≤ 59 ∧ R = gB (p_X12_says M1 (if le then 60 else 62) 0) fun r34 => if 0 ≤ (r34 149 30) then gL (gu2 r34 149 59 (1 : Int32)) fun I38 => gL ((I38 149 61)) fun z39 => gL (gu2 I38 149 60 z39) fun I40 => p_X12_act_165 x1 (if le then 60 else 62) gFu I40 (0 : Int32) else some ((r34 149 30), r34) := by
  intro R hR
  have hn := s.1
  obtain ⟨x1a, x1b⟩ := m_expr s (i := 0) (W := []) (by omega) (Nat.le_refl _) h
  have ok1 := suS_ok (b := b) (n := n) (F := faS b n 8) (L := 0) (fun i => faS_ok 8 0 i (by omega)) 0
  -- a bad one goes through
  have bad3 : ∀ {v : Int32} {M : gIt} (r12 : Int32), M 149 30 = v → v.toInt < 0 → (gB (p_X12_isGood M) fun r28 => gB (α := gIt) (if r28 = 0 then some M else if (M 149 29) ≤ (M 149 28) then some M else gB (p_X12_wrongs M (1 : Int32) (M 149 28)) fun r52 => some r52) fun ph30 => gB (p_X12_says ph30 r12 (0 : Int32)) fun r34 => if 0 ≤ (r34 149 30) then gL (gu2 r34 149 59 (1 : Int32)) fun I38 => gL ((I38 149 61)) fun z39 => gL (gu2 I38 149 60 z39) fun I40 => p_X12_act_165 x1 r12 gFu I40 (0 : Int32) else some ((r34 149 30), r34)) = some (v, M) := fun {v M} r12 h1 h2 => by
    rw [x12_nogood (by rw [h1]; exact h2), gB_v, if_pos p00, gB_v, x12_saysB (by rw [h1]; exact h2), gB_v, h1, if_neg (by rw [Int32.le_iff_toInt_le]; simp only [Int32.reduceToInt]; omega)]
  have bad2 : ∀ {v : Int32} {M : gIt} (r12 : Int32), M 149 30 = v → v.toInt < 0 → (gL (((M 149 28) + (1 : Int32))) fun z20 => gL (gu2 M 149 28 z20) fun I21 => gB (p_X12_isGood I21) fun r22 => gB (α := gIt) (if r22 = 0 then some I21 else gB (p_X12_expression I21) fun r55 => some r55) fun ph24 => gB (p_X12_isGood ph24) fun r28 => gB (α := gIt) (if r28 = 0 then some ph24 else if (ph24 149 29) ≤ (ph24 149 28) then some ph24 else gB (p_X12_wrongs ph24 (1 : Int32) (ph24 149 28)) fun r52 => some r52) fun ph30 => gB (p_X12_says ph30 r12 (0 : Int32)) fun r34 => if 0 ≤ (r34 149 30) then gL (gu2 r34 149 59 (1 : Int32)) fun I38 => gL ((I38 149 61)) fun z39 => gL (gu2 I38 149 60 z39) fun I40 => p_X12_act_165 x1 r12 gFu I40 (0 : Int32) else some ((r34 149 30), r34)) = some (v, gu2 M 149 28 (M 149 28 + 1)) := fun {v M} r12 h1 h2 => by
    have h1' : gu2 M 149 28 (M 149 28 + 1) 149 30 = v := by rw [gu_sl, if_neg (by decide)]; exact h1
    rw [gL_b, gL_b, x12_nogood (by rw [h1']; exact h2), gB_v, if_pos p00, gB_v]
    exact bad3 r12 h1' h2
  have fr28 : ∀ {M : gIt} (v : Int32), mFr M0 M → mFr M0 (gu2 M 149 28 v) := fun {M} v hf => ⟨fun x q1 q2 q3 q4 => by rw [gu2_ne q1]; exact hf.1 x q1 q2 q3 q4, fun j q1 q2 q3 q4 q5 => by rw [gu_sl, if_neg q1]; exact hf.2.1 j q1 q2 q3 q4 q5, fun k hk => by rw [gu_rd (by decide), gu_rd (by decide)]; exact hf.2.2 k hk⟩
  unfold txS
  cases eF : suS b n (faS b n 8) 0 0 with
  | inl g =>
    obtain ⟨M1, e1, f1⟩ := x1a g.1 g.2 eF
    obtain ⟨a1, a2, ⟨q, hq, eq⟩, a4⟩ := id f1
    refine ⟨fun k p e => ?_, fun w1 w2 le j e => by exact absurd e (by simp)⟩
    rw [Sum.inl.injEq] at e
    rw [show g.1 = k by rw [e], show g.2 = p by rw [e]] at a1
    rw [hR, e1, gB_v, x12_hereA s hq eq a4, gB_v, x12_nogood a2, gB_v, if_pos p00, gB_v]
    exact ⟨_, bad2 _ a1 (by rw [← a1]; exact a2), fr28 _ a4⟩
  | inr q =>
    obtain ⟨M1, e1, c1⟩ := x1b q.1 q.2 eF
    obtain ⟨o1, o2, o3, -, -⟩ := ok1 q.1 q.2 eF
    rw [List.nil_append] at c1
    have hh := x12_hereA s (i := q.1) (by omega) c1.1 c1.2.2.2.2.2.2.2
    rw [e1, gB_v, hh, gB_v, x12_good c1.2.1, gB_v, if_neg n10] at hR
    dsimp only
    by_cases cs : pkB b n q.1 = 60 ∨ pkB b n q.1 = 62
    · have hpos : 0 < (pkB b n q.1).toInt := by rcases cs with z | z <;> rw [z] <;> decide
      have hlt := pkB_lt (b := b) (n := n) (i := q.1) (fun z => by rw [z] at hpos; exact absurd hpos (by decide))
      have ehp : hrB b n q.1 = pkB b n q.1 := (hr_iff hpos).mpr rfl
      have sel : (if hrB b n q.1 = (60 : Int32) then some M1 else if hrB b n q.1 = (62 : Int32) then some M1 else gB (p_X12_wrongs M1 (1 : Int32) (M1 149 28)) fun r60 => some r60) = some M1 := by
        rw [ehp]
        rcases cs with z | z
        · rw [if_pos z]
        · rw [if_neg (by rw [z]; decide), if_pos z]
      have ele : (if decide (pkB b n q.1 = 60) = true then (60 : Int32) else 62) = hrB b n q.1 := by
        rw [ehp]
        rcases cs with z | z
        · rw [z, decide_eq_true rfl]; rfl
        · rw [z, decide_eq_false (by decide)]; rfl
      have c2 := mS_28 c1 (q.1 + 1)
      rw [sel, gB_v, c1.1, nI_1, gL_b, gL_b, x12_good c2.2.1, gB_v, if_neg n10] at hR
      obtain ⟨x2a, x2b⟩ := m_expr s (i := q.1 + 1) (W := q.2) (by omega) (by omega) (mP_of c2)
      have ok2 := suS_ok (b := b) (n := n) (F := faS b n 8) (L := 0) (fun i => faS_ok 8 0 i (by omega)) (q.1 + 1)
      rw [if_pos cs]
      cases eG : suS b n (faS b n 8) 0 (q.1 + 1) with
      | inl g =>
        obtain ⟨M2, e2, f2⟩ := x2a g.1 g.2 eG
        refine ⟨fun k p e => ?_, fun w1 w2 le j e => by exact absurd e (by simp)⟩
        rw [Sum.inl.injEq] at e
        have a1 := f2.1
        rw [show g.1 = k by rw [e], show g.2 = p by rw [e]] at a1
        rw [hR, e2, gB_v, gB_v]
        exact ⟨_, bad3 _ a1 (by rw [← a1]; exact f2.2.1), f2.2.2.2⟩
      | inr t =>
        obtain ⟨M2, e2, c3⟩ := x2b t.1 t.2 eG
        obtain ⟨o1', o2', o3', -, -⟩ := ok2 t.1 t.2 eG
        have e29 : M2 149 29 = nI n := by rw [c3.2.2.2.2.2.2.2.2.1 29 (by decide) (by decide) (by decide) (by decide) (by decide)]; exact s.2.1
        rw [e2, gB_v, gB_v, x12_good c3.2.1, gB_v, if_neg n10, e29, c3.1] at hR
        dsimp only
        by_cases ce : pkB b n t.1 = -1
        · have hnt : t.1 = n := by
            by_cases z : t.1 < n
            · have := (s.2.2 t.1 z).2.1
              unfold pkB at ce
              rw [if_pos z] at ce
              rw [ce] at this
              exact absurd this (by decide)
            · omega
          rw [if_pos ce]
          refine ⟨fun k p e => by exact absurd e (by simp), fun w1 w2 le j e => ?_⟩
          rw [Sum.inr.injEq, Prod.mk.injEq, Prod.mk.injEq, Prod.mk.injEq] at e
          obtain ⟨ea, eb, ec, ed⟩ := e
          subst ea eb ec ed
          refine ⟨M2, by rw [← hnt]; exact mP_of c3, by rw [List.length_append]; omega, ?_⟩
          rw [hR, if_pos (nI_le (by omega) (by omega)), gB_v, ele]
        · have hnt : t.1 < n := pkB_lt ce
          rw [if_neg ce]
          refine ⟨fun k p e => ?_, fun w1 w2 le j e => by exact absurd e (by simp)⟩
          rw [Sum.inl.injEq, Prod.mk.injEq] at e
          rw [← e.1, ← e.2]
          obtain ⟨M3, e3, f3, -⟩ := x12_wrong c3 (k := 1) (by omega) (by omega) (by omega)
          rw [c3.1] at e3
          rw [hR, if_neg (nI_ge (by omega) (by omega)), show p_X12_wrongs M2 1 (nI t.1) = _ from e3, gB_v, gB_v, x12_saysB f3.2.1, gB_v, if_neg (by rw [Int32.le_iff_toInt_le]; have := f3.2.1; simp only [Int32.reduceToInt]; omega), f3.1]
          exact ⟨M3, rfl, f3.2.2.2⟩
    · have n60 : ¬ hrB b n q.1 = 60 := fun z => cs (Or.inl ((hr_iff (by decide)).mp z))
      have n62 : ¬ hrB b n q.1 = 62 := fun z => cs (Or.inr ((hr_iff (by decide)).mp z))
      rw [if_neg cs]
      refine ⟨fun k p e => ?_, fun w1 w2 le j e => by exact absurd e (by simp)⟩
      rw [Sum.inl.injEq, Prod.mk.injEq] at e
      rw [← e.1, ← e.2]
      obtain ⟨M3, e3, f3, -⟩ := x12_wrong c1 (k := 1) (by omega) (by omega) (by omega)
      rw [hR, if_neg n60, if_neg n62, show p_X12_wrongs M1 1 (M1 149 28) = _ from e3, gB_v, gB_v]
      exact ⟨_, bad2 _ f3.1 (by rw [← f3.1]; exact f3.2.1), fr28 _ f3.2.2.2⟩
/-- the copy of what was read -/
theorem x12_copy {x1 x2 : Int32} {N : Nat} (hN : N ≤ 60) : ∀ (d f k : Nat) (M : gIt), k + d = N → d < f → M 149 61 = nI N → ∃ M', p_X12_act_165 x1 x2 f M (nI k) = some (0, M') ∧ (∀ x, x ≠ 189 → x ≠ 190 → M' x = M x) ∧ (∀ i, i < N → M' 189 i = (if k ≤ i then M 189 (100 + i) else M 189 i) ∧ M' 190 i = (if k ≤ i then M 190 (100 + i) else M 190 i)) := by
  intro d
  induction d with
  | zero =>
    intro f k M hk hf h61
    obtain ⟨f, rfl⟩ : ∃ q, f = q + 1 := ⟨f - 1, by omega⟩
    refine ⟨M, ?_, fun _ _ _ => rfl, fun i hi => by rw [if_neg (by omega), if_neg (by omega)]; exact ⟨rfl, rfl⟩⟩
    unfold p_X12_act_165
    rw [h61, if_pos (nI_le (by omega) (by omega))]
  | succ d ih =>
    intro f k M hk hf h61
    obtain ⟨f, rfl⟩ : ∃ q, f = q + 1 := ⟨f - 1, by omega⟩
    have e100 : (100 : Int32) + nI k = nI (100 + k) := nI_add 100 k
    obtain ⟨M', e', f', g'⟩ := ih f (k + 1) (gu2 (gu2 M 189 k (M 189 (100 + k))) 190 k (M 190 (100 + k))) (by omega) (by omega) (by rw [gu_rd (by decide), gu_rd (by decide)]; exact h61)
    refine ⟨M', ?_, fun x h1 h2 => by rw [f' x h1 h2, gu2_ne h2, gu2_ne h1], fun i hi => ?_⟩
    · unfold p_X12_act_165
      rw [h61, if_neg (nI_ge (by omega) (by omega)), e100]
      simp only [gck_t (gin_nI (show 100 + k < 200 by omega) (by omega)), gck_t (gin_nI (show k < 200 by omega) (by omega)), gL_b, nI_clamp (show 100 + k < 2 ^ 31 by omega), nI_clamp (show k < 2 ^ 31 by omega), nI_1, gu_rd (show 190 ≠ 189 by decide)]
      exact e'
    · obtain ⟨g1, g2⟩ := g' i hi
      have a1 : ∀ z, gu2 (gu2 M 189 k (M 189 (100 + k))) 190 k (M 190 (100 + k)) 189 z = if z = k then M 189 (100 + k) else M 189 z := fun z => by rw [gu_rd (by decide), gu_sl]
      have a2 : ∀ z, gu2 (gu2 M 189 k (M 189 (100 + k))) 190 k (M 190 (100 + k)) 190 z = if z = k then M 190 (100 + k) else M 190 z := fun z => by rw [gu_sl, gu_rd (by decide)]
      rw [a1, a1] at g1
      rw [a2, a2] at g2
      rw [g1, g2]
      by_cases c1 : i = k
      · rw [c1, if_neg (by omega), if_pos rfl, if_pos (by omega), if_neg (by omega), if_pos rfl, if_pos (by omega)]
        exact ⟨rfl, rfl⟩
      · by_cases c2 : k ≤ i
        · rw [if_pos (by omega), if_neg (by omega), if_pos c2, if_pos (by omega), if_neg (by omega), if_pos c2]
          exact ⟨rfl, rfl⟩
        · rw [if_neg (by omega), if_neg c1, if_neg c2, if_neg (by omega), if_neg c1, if_neg c2]
          exact ⟨rfl, rfl⟩
