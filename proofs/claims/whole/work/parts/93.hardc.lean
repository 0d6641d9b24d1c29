/-! ===== an act over numbers: the class's answer and the reference's ===== -/
def cndB (le : Int32) (l r : Int64) : Bool := if le = 0 then decide (r.toInt < l.toInt) else decide (l.toInt < r.toInt)
def hdI (st : List Int64) : Int64 := match st with
  | b :: _ => b
  | [] => 0
def actC (I : gIt) (a : Nat) (g0 g1 g2 g3 p : Int64) : Bool := cndB (I a 10) (hdI (ax (vlA g0 g1 g2 g3 p) (I (a + 1)) 0 (I a 7).toNatClampNeg)) (hdI (ax (vlA g0 g1 g2 g3 p) (I (a + 1)) (I a 7).toNatClampNeg ((I a 6).toNatClampNeg - (I a 7).toNatClampNeg)))
theorem ax_len {v : Int32 → Int64} {f : Nat → Int32} {i : Nat} : ∀ {n d : Nat}, gxd f i n = some d → (ax v f i n).length = d ∧ d ≤ 16 := by
  intro n
  induction n with
  | zero => intro d h; unfold gxd at h; rw [Option.some_inj] at h; exact ⟨by rw [← h]; rfl, by omega⟩
  | succ n ih =>
    intro d h
    obtain ⟨d', e⟩ := gxd_pre h
    obtain ⟨l, l2⟩ := ih e
    have ea : ax v f i (n + 1) = axw v (f (i + n)) (ax v f i n) := rfl
    rw [ea]
    rcases gxd_step h e with ⟨hc, h2, h3⟩ | ⟨h6, h7, h8, h9, h3⟩
    · generalize ax v f i n = st at l
      match st, l with
      | [], l => simp at l; omega
      | [_], l => simp at l; omega
      | a :: b :: r, l =>
        rw [List.length_cons, List.length_cons] at l
        unfold axw
        by_cases c6 : f (i + n) = -6
        · rw [if_pos c6]; exact ⟨by rw [List.length_cons]; omega, by omega⟩
        · rw [if_neg c6]
          by_cases c7 : f (i + n) = -7
          · rw [if_pos c7]; exact ⟨by rw [List.length_cons]; omega, by omega⟩
          · rw [if_neg c7]
            have c8 : f (i + n) = -8 := by rcases hc with h | h | h; exact absurd h c6; exact absurd h c7; exact h
            rw [if_pos c8]; exact ⟨by rw [List.length_cons]; omega, by omega⟩
    · unfold axw
      rw [if_neg h6, if_neg h7, if_neg h8]
      exact ⟨by rw [List.length_cons]; omega, by omega⟩
theorem ax_one {v : Int32 → Int64} {f : Nat → Int32} {i n : Nat} (h : gxd f i n = some 1) : ax v f i n = [hdI (ax v f i n)] := by
  obtain ⟨l, -⟩ := ax_len (v := v) h
  generalize ax v f i n = st at l
  match st, l with
  | [b], _ => rfl
theorem x0_condemns {I : gIt} {J : gJt} {a dg : Nat} (hd : dg < 32) (e9 : I a 9 = nI dg) (h0 : ∀ i, dg < i → i < 32 → J (a + 21) i = 0 ∧ J (a + 22) i = 0) (p : Int64) : p_X0_condemns I J a p = some (if cndB (I a 10) (pe p (J (a + 21))) (pe p (J (a + 22))) then 1 else 0) := by
  have key : ∀ (m f : Nat) (l r : Int64), m ≤ 32 → m < f → p_X0_condemns_16 I J a p f l r (nI m + (-1)) = some (if cndB (I a 10) (hor p (J (a + 21)) m l) (hor p (J (a + 22)) m r) then 1 else 0) := by
    intro m
    induction m with
    | zero =>
      intro f l r _ hf
      obtain ⟨f, rfl⟩ : ∃ q, f = q + 1 := ⟨f - 1, by omega⟩
      unfold p_X0_condemns_16
      rw [if_pos (show nI 0 + (-1 : Int32) < 0 by decide)]
      show _ = some (if cndB (I a 10) l r then 1 else 0)
      unfold cndB
      by_cases c : I a 10 = 0
      · rw [if_pos c, if_pos c]
        by_cases q : r.toInt < l.toInt
        · rw [if_neg (by have := lgc_gt.mpr q; rw [Int32.le_iff_toInt_le]; rw [Int32.lt_iff_toInt_lt] at this; omega), decide_eq_true q]; rfl
        · rw [if_pos (by
            rw [Int32.le_iff_toInt_le]
            rcases Int.lt_or_le (0 : Int32).toInt (lg_cmp l r).toInt with z | z
            · exact absurd (lgc_gt.mp (by rw [Int32.lt_iff_toInt_lt]; exact z)) q
            · exact z), decide_eq_false q]; rfl
      · rw [if_neg c, if_neg c]
        by_cases q : l.toInt < r.toInt
        · rw [if_neg (fun z => lgc_ge.mp z q), decide_eq_true q]; rfl
        · rw [if_pos (lgc_ge.mpr q), decide_eq_false q]; rfl
    | succ m ih =>
      intro f l r hm hf
      obtain ⟨f, rfl⟩ : ∃ q, f = q + 1 := ⟨f - 1, by omega⟩
      unfold p_X0_condemns_16
      rw [pk_m1, if_neg (nI_pos (by omega)), gck_t (gin_nI (by omega) (by omega)), gL_b, gck_t (gin_nI (by omega) (by omega)), gL_b, nI_clamp (by omega)]
      exact ih f _ _ (by omega) (by omega)
  have e0 : gmin (I a 9) 31 = nI (dg + 1) + (-1) := by
    rw [e9, pk_m1, show gmin (nI dg) (31 : Int32) = nI (min dg 31) from nI_min (b := 31) (by omega) (by omega), Nat.min_eq_left (by omega)]
  unfold p_X0_condemns
  rw [gL_b, e0, key (dg + 1) gFu 0 0 (by omega) (by unfold gFu; omega), hor_pe p hd (fun i h1 h2 => (h0 i h1 h2).1), hor_pe p hd (fun i h1 h2 => (h0 i h1 h2).2)]
theorem gfa8 {a j : Nat} (ha : a = 103 ∨ a = 126) (hj : j = 8 ∨ j = 9) : gfree a j := by unfold gfree gco; omega
theorem x0_reduce {I : gIt} {J : gJt} {a : Nat} (ha : a = 103 ∨ a = 126) {x y : Nat} (hxy : x + y ≤ 59) (e6 : I a 6 = nI (x + y)) (e7 : I a 7 = nI x) (hw : ∀ i, i < x + y → -8 ≤ (I (a + 1) i).toInt) (hx0 : gxd (I (a + 1)) 0 x = some 1) (hx1 : gxd (I (a + 1)) x y = some 1) (hp0 : gxp (I (a + 1)) 0 x ≤ 31) (hp1 : gxp (I (a + 1)) x y ≤ 31) (g0 g1 g2 g3 : Int64) : ∃ I' J', p_X0_reduce I J a g0 g1 g2 g3 = some (I', J') ∧ gkeep I I' ∧ ∀ p, p_X0_condemns I' J' a p = some (if actC I a g0 g1 g2 g3 p then 1 else 0) := by
  generalize hJ8 : gu2 (gu2 (gu2 (gu2 J (a + 2) 0 g0) (a + 2) 1 g1) (a + 2) 2 g2) (a + 2) 3 g3 = J8
  have gv8 : gvn J8 a g0 g1 g2 g3 := by
    rw [← hJ8]
    unfold gvn
    simp only [gu_sl]
    simp
  obtain ⟨J9, L, e9, f9, pL, vL⟩ := x0_side (I := I) gv8 (i := 0) (n := x) (by omega) (fun k hk => hw k (by omega)) hx0 hp0 (a3 := a + 21) (by omega)
  have r1 : gu2 I a 8 (nI 1) (a + 1) = I (a + 1) := gu2_ne (by omega)
  have gv9 : gvn J9 a g0 g1 g2 g3 := by unfold gvn; rw [f9 (a + 2) (by omega) (by omega)]; exact gv8
  obtain ⟨J11, R, e11, f11, pR, vR⟩ := x0_side (I := gu2 I a 8 (nI 1)) gv9 (i := x) (n := y) (by omega) (by rw [r1]; exact hw) (by rw [r1]; exact hx1) (by rw [r1]; exact hp1) (a3 := a + 22) (by omega)
  rw [r1] at pR
  rw [gu2_2] at e11
  have q21 : ∀ k, k < 32 → J11 (a + 21) k = L.1 k := fun k hk => by rw [f11 (a + 21) (by omega) (by omega)]; exact vL k hk
  have k8 : gkeep I (gu2 I a 8 (nI 1)) := gkeep_w (gfa8 ha (Or.inl rfl))
  have deg : ∀ (d f k dg : Nat) (I1 : gIt), k + d = 32 → d < f → gkeep I I1 → dg < 32 → I1 a 9 = nI dg → (∀ i, dg < i → i < k → J11 (a + 21) i = 0 ∧ J11 (a + 22) i = 0) → ∃ I' dg', p_X0_reduce_67 J11 a g0 g1 g2 g3 f I1 (nI k) = some (I', J11) ∧ gkeep I I' ∧ dg' < 32 ∧ I' a 9 = nI dg' ∧ ∀ i, dg' < i → i < 32 → J11 (a + 21) i = 0 ∧ J11 (a + 22) i = 0 := by
    intro d
    induction d with
    | zero =>
      intro f k dg I1 hk hf kk h9 e h0
      obtain ⟨f, rfl⟩ : ∃ q, f = q + 1 := ⟨f - 1, by omega⟩
      have : k = 32 := by omega
      subst this
      refine ⟨I1, dg, ?_, kk, h9, e, h0⟩
      unfold p_X0_reduce_67
      rw [if_pos (show (32 : Int32) ≤ nI 32 by decide)]
    | succ d ih =>
      intro f k dg I1 hk hf kk h9 e h0
      obtain ⟨f, rfl⟩ : ∃ q, f = q + 1 := ⟨f - 1, by omega⟩
      have set : ∃ I' dg', p_X0_reduce_67 J11 a g0 g1 g2 g3 f (gu2 I1 a 9 (nI k)) (nI (k + 1)) = some (I', J11) ∧ gkeep I I' ∧ dg' < 32 ∧ I' a 9 = nI dg' ∧ ∀ i, dg' < i → i < 32 → J11 (a + 21) i = 0 ∧ J11 (a + 22) i = 0 := ih f (k + 1) k _ (by omega) (by omega) (gkeep_tr kk (gkeep_w (gfa8 ha (Or.inr rfl)))) (by omega) (by rw [gu_sl, if_pos rfl]) (fun i h1 h2 => by omega)
      unfold p_X0_reduce_67
      rw [if_neg (show ¬ (32 : Int32) ≤ nI k from nI_ge (b := 32) (by omega) (by omega)), gck_t (gin_nI (by omega) (by omega)), nI_clamp (by omega), nI_1]
      by_cases c1 : J11 (a + 21) k = 0
      · rw [if_pos (lgc_eq.mpr c1), gck_t (gin_nI (by omega) (by omega))]
        by_cases c2 : J11 (a + 22) k = 0
        · rw [if_pos (lgc_eq.mpr c2)]
          refine ih f (k + 1) dg I1 (by omega) (by omega) kk h9 e (fun i h1 h2 => ?_)
          by_cases q : i = k
          · rw [q]; exact ⟨c1, c2⟩
          · exact h0 i h1 (by omega)
        · rw [if_neg (fun q => c2 (lgc_eq.mp q)), gL_b]
          exact set
      · rw [if_neg (fun q => c1 (lgc_eq.mp q)), gL_b]
        exact set
  obtain ⟨I', dg, e12, k12, h12, d12, z12⟩ := deg 32 gFu 0 0 (gu2 (gu2 I a 8 (nI 1)) a 9 0) (by omega) (by unfold gFu; omega) (gkeep_tr k8 (gkeep_w (gfa8 ha (Or.inr rfl)))) (by omega) (by rw [gu_sl, if_pos rfl]; rfl) (fun i _ h2 => by omega)
  refine ⟨I', J11, ?_, k12, fun p => ?_⟩
  · unfold p_X0_reduce
    rw [gck_t (by decide), gL_b, gck_t (by decide), gL_b, gck_t (by decide), gL_b, gck_t (by decide), gL_b, show gu2 (gu2 (gu2 (gu2 J (a + 2) ((0 : Int32)).toNatClampNeg g0) (a + 2) ((1 : Int32)).toNatClampNeg g1) (a + 2) ((2 : Int32)).toNatClampNeg g2) (a + 2) ((3 : Int32)).toNatClampNeg g3 = J8 from hJ8, e7]
    have e9' : p_X0_reduceSide I J8 a 0 (nI x) (a + 21) = some (gu2 I a 8 (nI 1), J9) := by rw [Nat.zero_add] at e9; exact e9
    rw [e9', gB_v]
    dsimp only
    rw [gu_sl, if_neg (by decide), gu_sl, if_neg (by decide), e7, e6, e11, gB_v, gL_b]
    exact e12
  · have e10 : I' a 10 = I a 10 := by
      rcases ha with rfl | rfl
      · exact k12.2.2.1.2.2.1
      · exact k12.2.2.1.2.2.2.2.2
    rw [x0_condemns h12 d12 z12, e10]
    have ol := px_ok (vlA_v g0 g1 g2 g3) (vlA_p g0 g1 g2 g3) 0 hx0 hp0
    have or := px_ok (vlA_v g0 g1 g2 g3) (vlA_p g0 g1 g2 g3) 0 hx1 hp1
    have el : pe p (J11 (a + 21)) = hdI (ax (vlA g0 g1 g2 g3 p) (I (a + 1)) 0 x) := by
      rw [pe_cg (q' := L.1) q21, ← ol.2.2.2.2 p, pL]
      rfl
    have er : pe p (J11 (a + 22)) = hdI (ax (vlA g0 g1 g2 g3 p) (I (a + 1)) x y) := by
      rw [pe_cg (q' := R.1) vR, ← or.2.2.2.2 p, pR]
      rfl
    unfold actC
    rw [el, er, e6, e7, nI_clamp (by omega), nI_clamp (by omega), show x + y - x = y by omega]
/-! the reference -/
def vJ (J : gJt) : List Int64 → Prop
  | [] => True
  | b :: r => J 191 r.length = b ∧ vJ J r
theorem vJ_w {J : gJt} {k : Nat} {v : Int64} : ∀ {st : List Int64}, st.length ≤ k → vJ J st → vJ (gu2 J 191 k v) st := by
  intro st
  induction st with
  | nil => intro _ _; exact trivial
  | cons b r ih =>
    intro hl h
    rw [List.length_cons] at hl
    refine ⟨?_, ih (by omega) h.2⟩
    rw [gu_sl, if_neg (by omega)]
    exact h.1
theorem vJ_put {J : gJt} {st : List Int64} {b : Int64} (h : vJ J st) : vJ (gu2 J 191 st.length b) (b :: st) := ⟨by rw [gu_sl, if_pos rfl], vJ_w (Nat.le_refl _) h⟩
theorem i32c {c : Int32} {z : Int} (h : c.toInt = z) (d : Int32) (hd : d.toInt = z) : c = d := Int32.toInt_inj.mp (by rw [h, hd])
/-- a word that waits: its code and value -/
theorem x12_word {M : gIt} {p w : Int64} {x5 x6 x7 c : Int32} (hc : -5 ≤ c.toInt) {k : Nat} (hk : k < 200) (e1 : M 189 k = gxc c) (e2 : M 190 k = gxa c) (fu : Nat) (J : gJt) {h tot : Nat} (hh : h < 120) (e60 : M 149 60 = nI tot) (hkt : k < tot) (ht : tot < 2 ^ 31) : p_X12_isHard_6 M p w x5 x6 x7 (fu + 1) J (nI h) (nI k) = p_X12_isHard_6 M p w x5 x6 x7 fu (gu2 J 191 h (vlA w (Int32.toInt64 x5) (if x6 = 0 then 0 else 1) (Int32.toInt64 x7) p c)) (nI (h + 1)) (nI (k + 1)) := by
  have g2 : gin (nI k) 200 = true := gin_nI hk (by omega)
  conv => lhs; unfold p_X12_isHard_6
  rw [e60, if_neg (nI_ge hkt ht), gck_t g2, nI_clamp (by omega), e1, e2, gL_b]
  simp only [gck_t (gin_nI (show h < 120 by omega) (by omega)), nI_clamp (show h < 2 ^ 31 by omega), nI_1]
  by_cases c0 : 0 ≤ c
  · have eg : gxc c = 1 := by unfold gxc; rw [if_pos c0]
    have ea : gxa c = c := by unfold gxa; rw [if_pos c0]
    have n1 : ¬ c = -1 := fun q => by rw [q] at c0; exact absurd c0 (by decide)
    rw [eg, ea, if_pos rfl, if_pos rfl, gck_t g2, gB_v, gL_b]
    unfold vlA
    rw [if_neg n1, if_pos c0]
  · have c0' : ¬ 0 ≤ c.toInt := fun q => c0 (by rw [Int32.le_iff_toInt_le]; exact q)
    have n6 : ¬ c = -6 := fun q => by rw [q] at hc; exact absurd hc (by decide)
    have n7 : ¬ c = -7 := fun q => by rw [q] at hc; exact absurd hc (by decide)
    have n8 : ¬ c = -8 := fun q => by rw [q] at hc; exact absurd hc (by decide)
    have eg : gxc c = 2 := by unfold gxc; rw [if_neg c0, if_neg n6, if_neg n7, if_neg n8]
    rw [eg, if_neg (by decide), if_pos rfl, if_neg (by decide), gck_t g2]
    have ph : (if x6 = 0 then some (0 : Int32) else some 1) = some (if x6 = 0 then 0 else 1) := by by_cases q : x6 = 0 <;> simp [q]
    have p64 : Int32.toInt64 (if x6 = 0 then (0 : Int32) else 1) = if x6 = 0 then 0 else 1 := by by_cases q : x6 = 0 <;> simp [q]
    rw [ph, gB_v]
    have ev : p_X12_valueOf (gxa c) p w x5 (if x6 = 0 then 0 else 1) x7 = some (vlA w (Int32.toInt64 x5) (if x6 = 0 then 0 else 1) (Int32.toInt64 x7) p c) := by
      unfold p_X12_valueOf gxa vlA
      rw [if_neg c0]
      by_cases q1 : c = -1
      · rw [if_pos q1, if_pos rfl, if_pos q1]
      · rw [if_neg q1, if_neg q1, if_neg c0]
        by_cases q2 : c = -2
        · rw [if_pos q2, if_neg (by decide), if_pos rfl, if_pos q2]
        · rw [if_neg q2, if_neg q2]
          by_cases q3 : c = -3
          · rw [if_pos q3, if_neg (by decide), if_neg (by decide), if_pos rfl, if_pos q3]
          · rw [if_neg q3, if_neg q3]
            by_cases q4 : c = -4
            · rw [if_pos q4, if_neg (by decide), if_neg (by decide), if_neg (by decide), if_pos rfl, if_pos q4, p64]
            · rw [if_neg q4, if_neg q4]
              have q5 : c = -5 := by
                have r1 : ¬ c.toInt = -1 := fun q => q1 (i32c q (-1) rfl)
                have r2 : ¬ c.toInt = -2 := fun q => q2 (i32c q (-2) rfl)
                have r3 : ¬ c.toInt = -3 := fun q => q3 (i32c q (-3) rfl)
                have r4 : ¬ c.toInt = -4 := fun q => q4 (i32c q (-4) rfl)
                exact i32c (z := -5) (by omega) (-5) rfl
              rw [if_pos q5, if_neg (by decide), if_neg (by decide), if_neg (by decide), if_neg (by decide)]
    rw [ev, gB_v, gB_v, gL_b]
/-- two that wait, and a sign -/
theorem x12_sign {M : gIt} {p w : Int64} {x5 x6 x7 : Int32} {k : Nat} (hk : k < 200) (fu : Nat) {J : gJt} {A B : Int64} {r : List Int64} (hv : vJ J (A :: B :: r)) (hl : r.length < 100) {tot : Nat} (e60 : M 149 60 = nI tot) (hkt : k < tot) (ht : tot < 2 ^ 31) {u : Int64} (hu : (M 189 k = 43 ∧ u = B + A) ∨ (M 189 k = 45 ∧ u = B - A) ∨ (M 189 k = 42 ∧ u = B * A) ∨ (M 189 k = 60 ∧ u = if B.toInt < A.toInt then 1 else 0) ∨ (M 189 k = 62 ∧ u = if A.toInt < B.toInt then 1 else 0)) : p_X12_isHard_6 M p w x5 x6 x7 (fu + 1) J (nI (A :: B :: r).length) (nI k) = p_X12_isHard_6 M p w x5 x6 x7 fu (gu2 J 191 r.length u) (nI (r.length + 1)) (nI (k + 1)) := by
  have g2 : gin (nI k) 200 = true := gin_nI hk (by omega)
  have h1 : J 191 (r.length + 1) = A := hv.1
  have h2 : J 191 r.length = B := hv.2.1
  have ga : gin (nI (r.length + 1)) 120 = true := gin_nI (by omega) (by omega)
  have gb : gin (nI r.length) 120 = true := gin_nI (by omega) (by omega)
  conv => lhs; unfold p_X12_isHard_6
  rw [List.length_cons, List.length_cons, e60, if_neg (nI_ge hkt ht), gck_t g2, nI_clamp (show k < 2 ^ 31 by omega), gL_b, pk_m1, nI_back]
  simp only [gck_t ga, gck_t gb, gL_b, nI_clamp (show r.length < 2 ^ 31 by omega), nI_clamp (show r.length + 1 < 2 ^ 31 by omega), h1, h2, nI_1]
  rcases hu with ⟨e, rfl⟩ | ⟨e, rfl⟩ | ⟨e, rfl⟩ | ⟨e, rfl⟩ | ⟨e, rfl⟩
  · rw [e, if_neg (by decide), if_neg (by decide), if_pos rfl]
  · rw [e, if_neg (by decide), if_neg (by decide), if_neg (by decide), if_pos rfl]
  · rw [e, if_neg (by decide), if_neg (by decide), if_neg (by decide), if_neg (by decide), if_pos rfl]
  · rw [e, if_neg (by decide), if_neg (by decide), if_neg (by decide), if_neg (by decide), if_neg (by decide), if_pos rfl]
    by_cases q : B.toInt < A.toInt
    · rw [if_neg (fun z => lgc_ge.mp z q), if_pos q]
    · rw [if_pos (lgc_ge.mpr q), if_neg q]
  · rw [e, if_neg (by decide), if_neg (by decide), if_neg (by decide), if_neg (by decide), if_neg (by decide), if_neg (by decide)]
    by_cases q : A.toInt < B.toInt
    · rw [if_neg (by have := lgc_gt.mpr q; rw [Int32.le_iff_toInt_le]; rw [Int32.lt_iff_toInt_lt] at this; omega), if_pos q]
    · rw [if_pos (by
        rw [Int32.le_iff_toInt_le]
        rcases Int.lt_or_le (0 : Int32).toInt (lg_cmp B A).toInt with z | z
        · exact absurd (lgc_gt.mp (by rw [Int32.lt_iff_toInt_lt]; exact z)) q
        · exact z), if_neg q]
theorem x12_seg {M : gIt} {p w : Int64} {x5 x6 x7 : Int32} {f : Nat → Int32} {i n tot : Nat} (hin : i + n < tot) (htot : tot ≤ 60) (e60 : M 149 60 = nI tot) (hcd : ∀ k, k < i + n → -8 ≤ (f k).toInt ∧ M 189 k = gxc (f k) ∧ M 190 k = gxa (f k)) (hx : gxd f i n = some 1) (base : List Int64) (hb : base.length ≤ 1) : ∀ (d fu j : Nat) (J : gJt), j + d = n → vJ J (ax (vlA w (Int32.toInt64 x5) (if x6 = 0 then 0 else 1) (Int32.toInt64 x7) p) f i j ++ base) → ∃ J', p_X12_isHard_6 M p w x5 x6 x7 (fu + d) J (nI (ax (vlA w (Int32.toInt64 x5) (if x6 = 0 then 0 else 1) (Int32.toInt64 x7) p) f i j ++ base).length) (nI (i + j)) = p_X12_isHard_6 M p w x5 x6 x7 fu J' (nI (ax (vlA w (Int32.toInt64 x5) (if x6 = 0 then 0 else 1) (Int32.toInt64 x7) p) f i n ++ base).length) (nI (i + n)) ∧ vJ J' (ax (vlA w (Int32.toInt64 x5) (if x6 = 0 then 0 else 1) (Int32.toInt64 x7) p) f i n ++ base) := by
  intro d
  generalize hv : vlA w (Int32.toInt64 x5) (if x6 = 0 then 0 else 1) (Int32.toInt64 x7) p = v
  induction d with
  | zero =>
    intro fu j J hj hJ
    have : j = n := by omega
    subst this
    exact ⟨J, rfl, hJ⟩
  | succ d ih =>
    intro fu j J hj hJ
    obtain ⟨d1, hd1⟩ := gxd_le hx (j + 1) (by omega)
    obtain ⟨d0, hd0⟩ := gxd_pre hd1
    have stp := gxd_step hd1 hd0
    obtain ⟨l0, l16⟩ := ax_len (v := v) hd0
    obtain ⟨c1, c2, c3⟩ := hcd (i + j) (by omega)
    have nx := fun J' => ih fu (j + 1) J' (by omega)
    have ea : ax v f i (j + 1) = axw v (f (i + j)) (ax v f i j) := rfl
    rw [ea] at nx
    have en : nI (i + (j + 1)) = nI (i + j + 1) := rfl
    rw [en] at nx
    rw [show fu + (d + 1) = (fu + d) + 1 by omega]
    generalize f (i + j) = c at stp c1 c2 c3 nx
    generalize ax v f i j = st at l0 nx hJ ⊢
    rcases stp with ⟨hop, h2, -⟩ | ⟨n6, n7, n8, hd16, -⟩
    · match st, l0, nx, hJ with
      | [], l0, _, _ => exact absurd l0 (by simp; omega)
      | [_], l0, _, _ => exact absurd l0 (by simp; omega)
      | A :: B :: r, l0, nx, hJ =>
        rw [List.length_cons, List.length_cons] at l0
        have hl : (r ++ base).length < 100 := by rw [List.length_append]; omega
        have go : ∀ u, axw v c (A :: B :: r) = u :: r → ((M 189 (i + j) = 43 ∧ u = B + A) ∨ (M 189 (i + j) = 45 ∧ u = B - A) ∨ (M 189 (i + j) = 42 ∧ u = B * A) ∨ (M 189 (i + j) = 60 ∧ u = if B.toInt < A.toInt then 1 else 0) ∨ (M 189 (i + j) = 62 ∧ u = if A.toInt < B.toInt then 1 else 0)) → ∃ J', p_X12_isHard_6 M p w x5 x6 x7 (fu + d + 1) J (nI (A :: B :: r ++ base).length) (nI (i + j)) = p_X12_isHard_6 M p w x5 x6 x7 fu J' (nI (ax v f i n ++ base).length) (nI (i + n)) ∧ vJ J' (ax v f i n ++ base) := fun u eu hu => by
          have hs := x12_sign (M := M) (p := p) (w := w) (x5 := x5) (x6 := x6) (x7 := x7) (k := i + j) (by omega) (fu + d) (J := J) (A := A) (B := B) (r := r ++ base) hJ hl e60 (by omega) (by omega) hu
          rw [eu] at nx
          have hv' : vJ (gu2 J 191 (r ++ base).length u) (u :: r ++ base) := vJ_put hJ.2.2
          obtain ⟨J', e', v'⟩ := nx _ hv'
          refine ⟨J', ?_, v'⟩
          rw [show A :: B :: r ++ base = A :: B :: (r ++ base) from rfl, hs]
          exact e'
        by_cases c6 : c = -6
        · exact go (B + A) (by unfold axw; rw [if_pos c6]) (Or.inl ⟨by rw [c2, c6]; decide, rfl⟩)
        · by_cases c7 : c = -7
          · exact go (B - A) (by unfold axw; rw [if_neg c6, if_pos c7]) (Or.inr (Or.inl ⟨by rw [c2, c7]; decide, rfl⟩))
          · have c8 : c = -8 := by rcases hop with h | h | h; exact absurd h c6; exact absurd h c7; exact h
            exact go (B * A) (by unfold axw; rw [if_neg c6, if_neg c7, if_pos c8]) (Or.inr (Or.inr (Or.inl ⟨by rw [c2, c8]; decide, rfl⟩)))
    · have hc5 : -5 ≤ c.toInt := by
        have q6 : ¬ c.toInt = -6 := fun q => n6 (i32c q (-6) rfl)
        have q7 : ¬ c.toInt = -7 := fun q => n7 (i32c q (-7) rfl)
        have q8 : ¬ c.toInt = -8 := fun q => n8 (i32c q (-8) rfl)
        omega
      have hl : (st ++ base).length < 120 := by rw [List.length_append]; omega
      have hs := x12_word (M := M) (p := p) (w := w) (x5 := x5) (x6 := x6) (x7 := x7) hc5 (k := i + j) (by omega) c2 c3 (fu + d) J hl e60 (by omega) (by omega)
      have ee : axw v c st = v c :: st := by unfold axw; rw [if_neg n6, if_neg n7, if_neg n8]
      rw [ee] at nx
      rw [hv] at hs
      obtain ⟨J', e', v'⟩ := nx (gu2 J 191 (st ++ base).length (v c)) (vJ_put hJ)
      refine ⟨J', ?_, v'⟩
      rw [hs]
      exact e'
theorem x12_isHard {I M : gIt} (kM : gkeep I M) {wb : Bool} (hact : iAct1 I (gact wb)) (J : gJt) (p w : Int64) (x5 x6 x7 : Int32) : ∃ J', p_X12_isHard M J p w x5 x6 x7 = some ((if actC I (gact wb) w (Int32.toInt64 x5) (if x6 = 0 then 0 else 1) (Int32.toInt64 x7) p then 1 else 0), J') := by
  obtain ⟨x, y, hxy, e6, e7, e10, e60, hcd, elast, hx0, hx1, hp0, hp1⟩ := id hact
  have m60 : M 149 60 = nI (x + y + 1) := by rw [kM.2.2.2.2.2.2.2.2.2.2.2.2.2]; exact e60
  have m189 : M 189 = I 189 := kM.1 189 (by unfold gco; omega)
  have m190 : M 190 = I 190 := kM.1 190 (by unfold gco; omega)
  generalize hv : vlA w (Int32.toInt64 x5) (if x6 = 0 then 0 else 1) (Int32.toInt64 x7) p = v
  have hx1l := ax_one (v := v) hx0
  have hx2l := ax_one (v := v) hx1
  have s1 := x12_seg (M := M) (p := p) (w := w) (x5 := x5) (x6 := x6) (x7 := x7) (f := I (gact wb + 1)) (i := 0) (n := x) (tot := x + y + 1) (by omega) (by omega) m60 (fun k hk => by rw [m189, m190]; exact hcd k (by omega)) hx0 [] (by decide) x (gFu - x) 0 J (by omega) trivial
  rw [hv] at s1
  obtain ⟨J1, a1, b1⟩ := s1
  have hf1 : gFu - x + x = gFu := by unfold gFu; omega
  rw [hf1, List.append_nil, hx1l] at a1
  rw [List.append_nil, hx1l] at b1
  have s2 := x12_seg (M := M) (p := p) (w := w) (x5 := x5) (x6 := x6) (x7 := x7) (f := I (gact wb + 1)) (i := x) (n := y) (tot := x + y + 1) (by omega) (by omega) m60 (fun k hk => by rw [m189, m190]; exact hcd k hk) hx1 [hdI (ax v (I (gact wb + 1)) 0 x)] (Nat.le_refl 1) y (gFu - x - y) 0 J1 (by omega) (by rw [hv]; exact b1)
  rw [hv] at s2
  obtain ⟨J2, a2, b2⟩ := s2
  have hf2 : gFu - x - y + y = gFu - x := by unfold gFu; omega
  rw [hf2, hx2l] at a2
  rw [hx2l] at b2
  have ea : actC I (gact wb) w (Int32.toInt64 x5) (if x6 = 0 then 0 else 1) (Int32.toInt64 x7) p = cndB (I (gact wb) 10) (hdI (ax v (I (gact wb + 1)) 0 x)) (hdI (ax v (I (gact wb + 1)) x y)) := by
    unfold actC
    rw [hv, e6, e7, nI_clamp (by omega), nI_clamp (by omega), show x + y - x = y by omega]
  rw [ea]
  generalize hdI (ax v (I (gact wb + 1)) 0 x) = l at *
  generalize hdI (ax v (I (gact wb + 1)) x y) = r at *
  have s3 := x12_sign (M := M) (p := p) (w := w) (x5 := x5) (x6 := x6) (x7 := x7) (k := x + y) (by omega) (gFu - x - y - 2 + 1) (J := J2) (A := r) (B := l) (r := []) b2 (by decide) m60 (by omega) (by omega) (u := if cndB (I (gact wb) 10) l r then 1 else 0) (by
    rcases e10 with z | z
    · have e9 : M 189 (x + y) = 62 := by rw [m189, elast, z, if_neg (by decide)]
      refine Or.inr (Or.inr (Or.inr (Or.inr ⟨e9, ?_⟩)))
      unfold cndB
      rw [z, if_pos (show (0 : Int32) = 0 from rfl)]
      by_cases q : r.toInt < l.toInt
      · rw [if_pos q, decide_eq_true q]; rfl
      · rw [if_neg q, decide_eq_false q]; rfl
    · have e9 : M 189 (x + y) = 60 := by rw [m189, elast, z, if_pos rfl]
      refine Or.inr (Or.inr (Or.inr (Or.inl ⟨e9, ?_⟩)))
      unfold cndB
      rw [z, if_neg (show ¬ (1 : Int32) = 0 by decide)]
      by_cases q : l.toInt < r.toInt
      · rw [if_pos q, decide_eq_true q]; rfl
      · rw [if_neg q, decide_eq_false q]; rfl)
  have hf3 : gFu - x - y - 2 + 1 + 1 = gFu - x - y := by unfold gFu; omega
  rw [hf3] at s3
  refine ⟨gu2 J2 191 0 (if cndB (I (gact wb) 10) l r then 1 else 0), ?_⟩
  unfold p_X12_isHard
  have a1' : p_X12_isHard_6 M p w x5 x6 x7 gFu J 0 0 = p_X12_isHard_6 M p w x5 x6 x7 (gFu - x) J1 (nI 1) (nI x) := by rw [Nat.zero_add x] at a1; exact a1
  have a2' : p_X12_isHard_6 M p w x5 x6 x7 (gFu - x) J1 (nI 1) (nI x) = p_X12_isHard_6 M p w x5 x6 x7 (gFu - x - y) J2 (nI 2) (nI (x + y)) := a2
  have s3' : p_X12_isHard_6 M p w x5 x6 x7 (gFu - x - y) J2 (nI 2) (nI (x + y)) = p_X12_isHard_6 M p w x5 x6 x7 (gFu - x - y - 2 + 1) (gu2 J2 191 0 (if cndB (I (gact wb) 10) l r then 1 else 0)) (nI 1) (nI (x + y + 1)) := s3
  rw [a1', a2', s3']
  unfold p_X12_isHard_6
  rw [m60, if_pos (nI_le (Nat.le_refl _) (by omega)), gck_t (by decide), i0c, gu_sl, if_pos rfl]
  cases cndB (I (gact wb) 10) l r
  · rw [if_neg (by decide)]; rfl
  · rw [if_pos (by decide)]; rfl
