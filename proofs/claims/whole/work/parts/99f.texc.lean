/-! ===== a settlement's text: takers, clauses; the class reads it ===== -/
def opT (b : Nat → Int32) (n i : Nat) : Bool := decide (pkB b n i = 42) || isLt (pkB b n i)
def isPt (c : Int32) : Bool := decide (50 ≤ c.toInt ∧ c.toInt ≤ 57)
abbrev gTk := (Nat × Nat) ⊕ (Nat × List Int32 × List Int32)
def tk1 (b : Nat → Int32) (n T i : Nat) : (Nat × Nat) ⊕ (Nat × Int32 × Int32) := match whS b n T i with
  | .inl f => .inl f
  | .inr q => if pkB b n q.1 = 47 then (if isPt (pkB b n (q.1 + 1)) then .inr (q.1 + 2, gtW q.2 0, nI ((pkB b n (q.1 + 1)).toNatClampNeg - 48)) else .inl (1, q.1 + 1)) else .inr (q.1, gtW q.2 0, 1)
def tkL (b : Nat → Int32) (n T : Nat) : Nat → Nat → List Int32 → List Int32 → gTk
  | 0, i, _, _ => if opT b n i then .inl (4, i) else .inl (1, i)
  | m + 1, i, ks, gs => if opT b n i then (match tk1 b n T i with | .inl f => .inl f | .inr q => if pkB b n q.1 = 44 then tkL b n T m (q.1 + 1) (ks ++ [q.2.1]) (gs ++ [q.2.2]) else .inr (q.1, ks ++ [q.2.1], gs ++ [q.2.2])) else .inl (1, i)
abbrev gCl := List Int32 × List Int32 × List Int32
def clS (b : Nat → Int32) (n T i : Nat) : (Nat × Nat) ⊕ (Nat × gCl) := match tkL b n T 4 i [] [] with
  | .inl f => .inl f
  | .inr t => if pkB b n t.1 = 40 then (match eiS b n (piS b n T 8) 1 (t.1 + 1) with | .inl f => .inl f | .inr q => if pkB b n q.1 = 41 then .inr (q.1 + 1, t.2.1, t.2.2, q.2) else .inl (1, q.1)) else .inr (t.1, t.2.1, t.2.2, [])
def teL (b : Nat → Int32) (n T : Nat) : Nat → Nat → List gCl → (Nat × Nat) ⊕ List gCl
  | 0, i, _ => if opT b n i then .inl (3, i) else .inl (1, i)
  | m + 1, i, cs => if opT b n i then (match clS b n T i with | .inl f => .inl f | .inr q => if pkB b n q.1 = -1 then .inr (cs ++ [q.2]) else if pkB b n q.1 = 59 then teL b n T m (q.1 + 1) (cs ++ [q.2]) else .inl (1, q.1)) else .inl (1, i)
def kA (cs : List gCl) : List Int32 := (cs.map (fun c => c.1)).flatten
def gA (cs : List gCl) : List Int32 := (cs.map (fun c => c.2.1)).flatten
def wA (cs : List gCl) : List Int32 := (cs.map (fun c => c.2.2)).flatten
theorem kA_a (cs : List gCl) (c : gCl) : kA (cs ++ [c]) = kA cs ++ c.1 := by unfold kA; simp
theorem gA_a (cs : List gCl) (c : gCl) : gA (cs ++ [c]) = gA cs ++ c.2.1 := by unfold gA; simp
theorem wA_a (cs : List gCl) (c : gCl) : wA (cs ++ [c]) = wA cs ++ c.2.2 := by unfold wA; simp
/-- what a taker is -/
theorem tk1_ok {b : Nat → Int32} {n T i j : Nat} {w g : Int32} (e : tk1 b n T i = .inr (j, w, g)) : i < j ∧ j ≤ n ∧ (0 ≤ w.toInt ∧ w.toInt < 32) ∧ (1 ≤ g.toInt ∧ g.toInt ≤ 9) := by
  unfold tk1 at e
  cases eF : whS b n T i with
  | inl f => rw [eF] at e; exact absurd e (by simp)
  | inr q =>
    rw [eF] at e
    dsimp only at e
    obtain ⟨q1, q2, q3, -, -⟩ := wh_ok (b := b) (n := n) (T := T) (i := i) (L := 0) (by omega) q.1 q.2 eF
    have hw : 0 ≤ (gtW q.2 0).toInt ∧ (gtW q.2 0).toInt < 32 := by
      unfold whS at eF
      by_cases c1 : pkB b n i = 42
      · rw [if_pos c1] at eF
        by_cases c2 : isLt (pkB b n (i + 1)) = true
        · obtain ⟨-, z2, -⟩ := isLt_lt c2
          rw [if_pos c2, Sum.inr.injEq] at eF
          rw [← eF]
          show 0 ≤ (nI _).toInt ∧ (nI _).toInt < 32
          rw [nI_toInt (by omega)]
          omega
        · rw [if_neg c2] at eF; exact absurd eF (by simp)
      · rw [if_neg c1] at eF
        by_cases c2 : isLt (pkB b n i) = true
        · obtain ⟨-, z2, -⟩ := isLt_lt c2
          rw [if_pos c2] at eF
          by_cases c3 : ltO (pkB b n i) = T
          · rw [if_pos c3] at eF; exact absurd eF (by simp)
          · rw [if_neg c3, Sum.inr.injEq] at eF
            rw [← eF]
            show 0 ≤ (nI _).toInt ∧ (nI _).toInt < 32
            rw [nI_toInt (by omega)]
            omega
        · rw [if_neg c2] at eF; exact absurd eF (by simp)
    by_cases c : pkB b n q.1 = 47
    · rw [if_pos c] at e
      by_cases c2 : isPt (pkB b n (q.1 + 1)) = true
      · rw [if_pos c2, Sum.inr.injEq, Prod.mk.injEq, Prod.mk.injEq] at e
        obtain ⟨e1, e2, e3⟩ := e
        have hp := c2
        unfold isPt at hp
        rw [decide_eq_true_eq] at hp
        have := pkB_lt (b := b) (n := n) (i := q.1 + 1) (fun z => by rw [z] at hp; exact absurd hp.1 (by decide))
        obtain ⟨z, -, ez, tz⟩ := i_of (x := pkB b n (q.1 + 1)) (by omega)
        rw [← e1, ← e2, ← e3, ez, nI_clamp (by omega), nI_toInt (by omega)]
        exact ⟨by omega, by omega, hw, by omega⟩
      · rw [if_neg c2] at e; exact absurd e (by simp)
    · rw [if_neg c, Sum.inr.injEq, Prod.mk.injEq, Prod.mk.injEq] at e
      obtain ⟨e1, e2, e3⟩ := e
      rw [← e1, ← e2, ← e3]
      exact ⟨q1, q2, hw, by decide⟩
def okT (n i : Nat) (j : Nat) (ks gs : List Int32) : Prop := i < j ∧ j ≤ n ∧ ks.length = gs.length ∧ 1 ≤ ks.length ∧ ks.length ≤ 4 ∧ (∀ w, w ∈ ks → 0 ≤ w.toInt ∧ w.toInt < 32) ∧ ∀ g, g ∈ gs → 1 ≤ g.toInt ∧ g.toInt ≤ 9
theorem tkL_ok {b : Nat → Int32} {n T i0 : Nat} : ∀ m i ks gs, i0 ≤ i → ks.length = gs.length → ks.length + m ≤ 4 → (∀ w, w ∈ ks → 0 ≤ w.toInt ∧ w.toInt < 32) → (∀ g, g ∈ gs → 1 ≤ g.toInt ∧ g.toInt ≤ 9) → ∀ j ks' gs', tkL b n T m i ks gs = .inr (j, ks', gs') → okT n i0 j ks' gs' := by
  intro m
  induction m with
  | zero =>
    intro i ks gs _ _ _ _ _ j ks' gs' e
    unfold tkL at e
    by_cases c : opT b n i = true
    · rw [if_pos c] at e; exact absurd e (by simp)
    · rw [if_neg c] at e; exact absurd e (by simp)
  | succ m ih =>
    intro i ks gs h0 hl hm hk hg j ks' gs' e
    unfold tkL at e
    by_cases c : opT b n i = true
    · rw [if_pos c] at e
      cases eF : tk1 b n T i with
      | inl f => rw [eF] at e; exact absurd e (by simp)
      | inr q =>
        obtain ⟨o1, o2, o3, o4⟩ := tk1_ok (j := q.1) (w := q.2.1) (g := q.2.2) eF
        have hk' : ∀ w, w ∈ ks ++ [q.2.1] → 0 ≤ w.toInt ∧ w.toInt < 32 := fun w hw => by
          rw [List.mem_append, List.mem_singleton] at hw
          rcases hw with hw | hw
          · exact hk w hw
          · rw [hw]; exact o3
        have hg' : ∀ w, w ∈ gs ++ [q.2.2] → 1 ≤ w.toInt ∧ w.toInt ≤ 9 := fun w hw => by
          rw [List.mem_append, List.mem_singleton] at hw
          rcases hw with hw | hw
          · exact hg w hw
          · rw [hw]; exact o4
        rw [eF] at e
        dsimp only at e
        have l1 : (ks ++ [q.2.1]).length = ks.length + 1 := by rw [List.length_append]; rfl
        have l2 : (gs ++ [q.2.2]).length = gs.length + 1 := by rw [List.length_append]; rfl
        by_cases c2 : pkB b n q.1 = 44
        · rw [if_pos c2] at e
          exact ih (q.1 + 1) _ _ (by omega) (by omega) (by omega) hk' hg' j ks' gs' e
        · rw [if_neg c2, Sum.inr.injEq, Prod.mk.injEq, Prod.mk.injEq] at e
          obtain ⟨e1, e2, e3⟩ := e
          rw [← e1, ← e2, ← e3]
          exact ⟨by omega, o2, by omega, by omega, by omega, hk', hg'⟩
    · rw [if_neg c] at e; exact absurd e (by simp)
def okL (n i j : Nat) (c : gCl) : Prop := okT n i j c.1 c.2.1 ∧ c.2.2.length < j - i ∧ (c.2.2 = [] ∨ rdC 0 c.2.2 = some 1) ∧ ∀ w, w ∈ c.2.2 → gword w
theorem clS_ok {b : Nat → Int32} {n T i j : Nat} {c : gCl} (e : clS b n T i = .inr (j, c)) : okL n i j c := by
  unfold clS at e
  cases eF : tkL b n T 4 i [] [] with
  | inl f => rw [eF] at e; exact absurd e (by simp)
  | inr t =>
    have ok := tkL_ok (b := b) (n := n) (T := T) (i0 := i) 4 i [] [] (Nat.le_refl _) rfl (by decide) (fun w h => absurd h (by simp)) (fun w h => absurd h (by simp)) t.1 t.2.1 t.2.2 eF
    obtain ⟨t1, t2, t3⟩ := ok
    rw [eF] at e
    dsimp only at e
    by_cases c1 : pkB b n t.1 = 40
    · rw [if_pos c1] at e
      cases eG : eiS b n (piS b n T 8) 1 (t.1 + 1) with
      | inl f => rw [eG] at e; exact absurd e (by simp)
      | inr q =>
        obtain ⟨q1, q2, q3, q4, q5⟩ := eiS_ok (b := b) (F := piS b n T 8) (L := 1) (fun i => piS_ok 8 1 i (by omega)) (t.1 + 1) q.1 q.2 eG
        rw [eG] at e
        dsimp only at e
        by_cases c3 : pkB b n q.1 = 41
        · have := pkB_lt (b := b) (n := n) (i := q.1) (by rw [c3]; decide)
          rw [if_pos c3, Sum.inr.injEq, Prod.mk.injEq] at e
          rw [← e.1, ← e.2]
          exact ⟨⟨by omega, by omega, t3⟩, by dsimp only; omega, Or.inr (q4 0 (by omega)), q5⟩
        · rw [if_neg c3] at e; exact absurd e (by simp)
    · rw [if_neg c1, Sum.inr.injEq, Prod.mk.injEq] at e
      rw [← e.1, ← e.2]
      exact ⟨⟨t1, t2, t3⟩, by dsimp only; rw [List.length_nil]; omega, Or.inl rfl, fun w h => absurd h (by simp)⟩
section Sx
variable {b : Nat → Int32} {n T a : Nat} {r0 : gIt}
theorem x9_opens (s : sSt b n T a r0) {i : Nat} {K G W : List Int32} {r : gIt} (h : sCS a r0 i K G W [] r) (hi : i ≤ n) : p_X9_opensTaker r = some (if opT b n i then 1 else 0) := by
  unfold p_X9_opensTaker opT
  rw [s_peek s h hi, gB_v]
  by_cases c : pkB b n i = 42
  · rw [if_pos c, decide_eq_true c]; rfl
  · rw [if_neg c, s_letter s h hi, gB_v, decide_eq_false c, Bool.false_or]
    by_cases c2 : isLt (pkB b n i) = true
    · obtain ⟨-, z2, -⟩ := isLt_lt c2
      rw [if_pos c2, if_neg (nI_nm (by omega)), if_pos c2]
    · rw [if_neg c2, if_pos rfl, if_neg c2]
theorem s_take1 (s : sSt b n T a r0) {i : Nat} {K G W : List Int32} {r : gIt} {w g : Int32} (h : sCS a r0 i K G W [w] r) (hK : K.length < 32) : sCS a r0 i (K ++ [w]) (G ++ [g]) W [] (gu2 (gu2 (gu2 r (a + 3) K.length w) (a + 4) K.length g) a 9 (nI (K.length + 1))) := by
  obtain ⟨n1, n2, n3, n4, n5, n6, n7, n8⟩ := s_ne s
  obtain ⟨h1, ⟨h2, h2'⟩, ⟨h3, h3'⟩, ⟨h4, h4'⟩, h5, h6, h7, f1, f2, f3⟩ := h
  generalize hR : gu2 (gu2 (gu2 r (a + 3) K.length w) (a + 4) K.length g) a 9 (nI (K.length + 1)) = R
  have ra : ∀ j, j ≠ 9 → R a j = r a j := fun j hj => by rw [← hR, gu_sl, if_neg hj, gu_rd (by omega), gu_rd (by omega)]
  have r11 : ∀ j, R 11 j = r 11 j := fun j => by rw [← hR, gu_rd (Ne.symm n1), gu_rd (Ne.symm n5), gu_rd (Ne.symm n3)]
  have r9 : R a 9 = nI (K.length + 1) := by rw [← hR, gu_sl, if_pos rfl]
  have r3 : ∀ k, R (a + 3) k = if k = K.length then w else r (a + 3) k := fun k => by rw [← hR, gu_rd (by omega), gu_rd (by omega), gu_sl]
  have r4 : ∀ k, R (a + 4) k = if k = K.length then g else r (a + 4) k := fun k => by rw [← hR, gu_rd (by omega), gu_sl, gu_rd (by omega)]
  have r5 : ∀ k, R (a + 5) k = r (a + 5) k := fun k => by rw [← hR, gu_rd (by omega), gu_rd (by omega), gu_rd (by omega)]
  have lK : (K ++ [w]).length = K.length + 1 := by rw [List.length_append]; rfl
  have lG : (G ++ [g]).length = G.length + 1 := by rw [List.length_append]; rfl
  have hE : ∀ o, o < 32 → (nI o ∈ [w] ↔ nI o = w) := fun o _ => List.mem_singleton
  refine ⟨by rw [r11]; exact h1, ⟨by rw [ra 10 (by decide)]; exact h2, fun k hk => by rw [r5]; exact h2' k hk⟩, ⟨by rw [r9, lK], fun k hk => ?_⟩, ⟨by rw [lK, lG, h4], fun k hk => ?_⟩, by rw [ra 11 (by decide)]; exact mk_mvK h5 (by omega) hE, by rw [ra 12 (by decide)]; exact mk_mvK h6 (by omega) hE, by rw [r11]; exact h7, fun x q1 q2 q3 q4 q5 => by rw [← hR, gu2_ne q2, gu2_ne q4, gu2_ne q3]; exact f1 x q1 q2 q3 q4 q5, fun j q1 q2 => by rw [r11]; exact f2 j q1 q2, fun j q => by rw [ra j (by omega)]; exact f3 j q⟩
  · rw [r3]
    by_cases e : k = K.length
    · rw [if_pos e, e, gtW_r]
    · rw [if_neg e, gtW_l (by omega)]; exact h3' k (by omega)
  · rw [r4]
    by_cases e : k = K.length
    · rw [if_pos e, e, h4, gtW_r]
    · rw [if_neg e, gtW_l (by omega)]; exact h4' k (by omega)
theorem x9_share (s : sSt b n T a r0) {i : Nat} {K G W : List Int32} {r : gIt} (h : sCS a r0 i K G W [] r) (hi : i ≤ n) (hK : K.length < 32) : (∀ k p, tk1 b n T i = .inl (k, p) → ∃ r', p_X9_readShare r a = some (0, r') ∧ sFl a r0 k p r') ∧ ∀ j w g, tk1 b n T i = .inr (j, w, g) → ∃ r', p_X9_readShare r a = some (1, r') ∧ sCS a r0 j (K ++ [w]) (G ++ [g]) W [] r' := by
  obtain ⟨n1, n2, n3, n4, n5, n6, n7, n8⟩ := s_ne s
  have hn := s.2.1
  have hp := x9_who s h hi
  unfold p_X9_readShare tk1
  cases eF : whS b n T i with
  | inl f =>
    obtain ⟨r2, e2, f2⟩ := hp.1 f.1 f.2 eF
    rw [e2, gB_v]
    dsimp only
    rw [if_pos rfl]
    refine ⟨fun k p e => ?_, fun j w g e => by exact absurd e (by simp)⟩
    rw [Sum.inl.injEq] at e
    rw [e] at f2
    exact ⟨r2, rfl, f2⟩
  | inr q =>
    obtain ⟨o, r2, ho, ew, e2, c2⟩ := hp.2 q.1 q.2 eF
    obtain ⟨q1, q2, q3, -, -⟩ := wh_ok (b := b) (n := n) (T := T) (i := i) (L := 0) (by omega) q.1 q.2 eF
    rw [e2, gB_v]
    dsimp only
    have e9 : ∀ {i r}, sCS a r0 i K G W [nI o] r → r a 9 = nI K.length := fun h => h.2.2.1.1
    have stw : ∀ {j r} (g : Int32) (hc : sCS a r0 j K G W [nI o] r), (gck (gin (r a 9) 32) (gL (gu2 r ((a + 3)) ((r a 9)).toNatClampNeg (nI o)) fun I9 => gck (gin (I9 a 9) 32) (gL (gu2 I9 ((a + 4)) ((I9 a 9)).toNatClampNeg g) fun I11 => gL (((I11 a 9) + (1 : Int32))) fun z12 => gL (gu2 I11 a 9 z12) fun I13 => some ((1 : Int32), I13)))) = some (1, gu2 (gu2 (gu2 r (a + 3) K.length (nI o)) (a + 4) K.length g) a 9 (nI (K.length + 1))) := fun {j r} g hc => by
      rw [e9 hc, gck_t (gin_nI (by omega) (by omega)), gL_b, gu_rd (by omega), e9 hc, gck_t (gin_nI (by omega) (by omega)), gL_b, nI_clamp (by omega), gu_rd (by omega), gu_rd (by omega), e9 hc, nI_1, gL_b, gL_b]
    have ew0 : gtW q.2 0 = nI o := by rw [ew]; rfl
    have lt32 : r2 a 9 < nI 32 := by rw [e9 c2]; exact nI_lt hK (by omega)
    rw [if_neg (nI_nm (by omega)), if_pos lt32]
    rcases s_take s c2 q2 47 with ⟨t, r3, e3, c3⟩ | ⟨t, e3⟩
    · have hlt := pkB_lt (b := b) (n := n) (i := q.1) (by rw [t]; decide)
      rw [if_pos t, e3, gB_v]
      dsimp only
      rw [if_neg n10]
      rcases s_digit s c3 (by omega) 2 (by omega) with ⟨d1, r4, e4, c4⟩ | ⟨d1, e4⟩
      · have hd : isPt (pkB b n (q.1 + 1)) = true := by unfold isPt; rw [decide_eq_true_eq]; omega
        have hd9 : (pkB b n (q.1 + 1)).toNatClampNeg - 48 < 2 ^ 31 := by
          obtain ⟨z, -, ez, tz⟩ := i_of (x := pkB b n (q.1 + 1)) (by omega)
          rw [ez, nI_clamp (by omega)]
          omega
        rw [if_pos hd, show p_X10_takeDigit r3 2 = _ from e4, gB_v]
        dsimp only
        rw [if_neg (nI_nm hd9), stw _ c4]
        refine ⟨fun k p e => by exact absurd e (by simp), fun j w g e => ?_⟩
        rw [Sum.inr.injEq, Prod.mk.injEq, Prod.mk.injEq] at e
        obtain ⟨e5, e6, e7⟩ := e
        rw [← e5, ← e6, ← e7, ew0]
        exact ⟨_, rfl, s_take1 s c4 hK⟩
      · have hd : ¬ isPt (pkB b n (q.1 + 1)) = true := by unfold isPt; rw [decide_eq_true_eq]; omega
        rw [if_neg hd, show p_X10_takeDigit r3 2 = _ from e4, gB_v]
        dsimp only
        rw [if_pos rfl]
        obtain ⟨r5, e5, f5⟩ := s_refuse s c3 1
        rw [show p_X10_refuse r3 1 = _ from e5, gB_v]
        refine ⟨fun k p e => ?_, fun j w g e => by exact absurd e (by simp)⟩
        rw [Sum.inl.injEq, Prod.mk.injEq] at e
        rw [← e.1, ← e.2]
        exact ⟨r5, rfl, f5⟩
    · rw [if_neg t, e3, gB_v]
      dsimp only
      rw [if_pos p00, stw _ c2]
      refine ⟨fun k p e => by exact absurd e (by simp), fun j w g e => ?_⟩
      rw [Sum.inr.injEq, Prod.mk.injEq, Prod.mk.injEq] at e
      obtain ⟨e5, e6, e7⟩ := e
      rw [← e5, ← e6, ← e7, ew0]
      exact ⟨_, rfl, s_take1 s c2 hK⟩
theorem x9_shares (s : sSt b n T a r0) {K G W : List Int32} (hK : K.length ≤ 28) : ∀ (m f i : Nat) (ks gs : List Int32) (r : gIt), m ≤ 4 → m < f → ks.length + m = 4 → i ≤ n → sCS a r0 i (K ++ ks) (G ++ gs) W [] r → (∀ k p, tkL b n T m i ks gs = .inl (k, p) → ∃ r', p_X9_readShares_2 a f r (nI (4 - m)) = some (0, r') ∧ sFl a r0 k p r') ∧ ∀ j ks' gs', tkL b n T m i ks gs = .inr (j, ks', gs') → ∃ r', p_X9_readShares_2 a f r (nI (4 - m)) = some (1, r') ∧ sCS a r0 j (K ++ ks') (G ++ gs') W [] r' := by
  intro m
  have hn := s.2.1
  induction m with
  | zero =>
    intro f i ks gs r _ hf hm hi h
    obtain ⟨f, rfl⟩ : ∃ q, f = q + 1 := ⟨f - 1, by omega⟩
    unfold p_X9_readShares_2 tkL
    rw [if_neg (show ¬ (4 : Int32) < nI (4 - 0) by decide), x9_opens s h hi, gB_v]
    refine ⟨fun k p e => ?_, fun j ks' gs' e => ?_⟩
    · by_cases c : opT b n i = true
      · rw [if_pos c, Sum.inl.injEq, Prod.mk.injEq] at e
        rw [← e.1, ← e.2, if_pos c, if_neg n10, if_pos (show nI (4 - 0) = (4 : Int32) by decide)]
        obtain ⟨r5, e5, f5⟩ := s_refuse s h 4
        rw [show p_X10_refuse r 4 = _ from e5, gB_v]
        exact ⟨r5, rfl, f5⟩
      · rw [if_neg c, Sum.inl.injEq, Prod.mk.injEq] at e
        rw [← e.1, ← e.2, if_neg c, if_pos p00]
        obtain ⟨r5, e5, f5⟩ := s_refuse s h 1
        rw [show p_X10_refuse r 1 = _ from e5, gB_v]
        exact ⟨r5, rfl, f5⟩
    · by_cases c : opT b n i = true
      · rw [if_pos c] at e; exact absurd e (by simp)
      · rw [if_neg c] at e; exact absurd e (by simp)
  | succ m ih =>
    intro f i ks gs r hm4 hf hm hi h
    obtain ⟨f, rfl⟩ : ∃ q, f = q + 1 := ⟨f - 1, by omega⟩
    unfold p_X9_readShares_2 tkL
    rw [if_neg (show ¬ (4 : Int32) < nI (4 - (m + 1)) from nI_nlt (a := 4) (by omega) (by omega)), x9_opens s h hi, gB_v]
    by_cases c : opT b n i = true
    · rw [if_pos c, if_pos c, if_neg n10, if_neg (show ¬ nI (4 - (m + 1)) = (4 : Int32) from fun q => by have := (nI_eq (b := 4) (by omega) (by omega)).mp q; omega)]
      have hp := x9_share s h hi (by rw [List.length_append]; omega)
      cases eF : tk1 b n T i with
      | inl g =>
        obtain ⟨r2, e2, f2⟩ := hp.1 g.1 g.2 eF
        rw [e2, gB_v]
        refine ⟨fun k p e => ?_, fun j ks' gs' e => by exact absurd e (by simp)⟩
        rw [Sum.inl.injEq] at e
        rw [e] at f2
        exact ⟨r2, rfl, f2⟩
      | inr q =>
        obtain ⟨r2, e2, c2⟩ := hp.2 q.1 q.2.1 q.2.2 eF
        obtain ⟨o1, o2, -, -⟩ := tk1_ok (j := q.1) (w := q.2.1) (g := q.2.2) eF
        rw [e2, gB_v]
        dsimp only
        rw [if_neg n10]
        rw [List.append_assoc, List.append_assoc] at c2
        rcases s_take s c2 o2 44 with ⟨t, r3, e3, c3⟩ | ⟨t, e3⟩
        · have hlt := pkB_lt (b := b) (n := n) (i := q.1) (by rw [t]; decide)
          rw [if_pos t, e3, gB_v]
          dsimp only
          rw [if_neg n10, nI_1, show 4 - (m + 1) + 1 = 4 - m by omega]
          exact ih f (q.1 + 1) _ _ r3 (by omega) (by omega) (by rw [List.length_append, List.length_singleton]; omega) (by omega) c3
        · rw [if_neg t, e3, gB_v]
          refine ⟨fun k p e => by exact absurd e (by simp), fun j ks' gs' e => ?_⟩
          rw [Sum.inr.injEq, Prod.mk.injEq, Prod.mk.injEq] at e
          obtain ⟨e5, e6, e7⟩ := e
          rw [← e5, ← e6, ← e7]
          exact ⟨r2, rfl, c2⟩
    · rw [if_neg c, if_neg c, if_pos p00]
      obtain ⟨r5, e5, f5⟩ := s_refuse s h 1
      rw [show p_X10_refuse r 1 = _ from e5, gB_v]
      refine ⟨fun k p e => ?_, fun j ks' gs' e => by exact absurd e (by simp)⟩
      rw [Sum.inl.injEq, Prod.mk.injEq] at e
      rw [← e.1, ← e.2]
      exact ⟨r5, rfl, f5⟩
end Sx
