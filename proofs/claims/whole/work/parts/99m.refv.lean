/-! ===== the reference reads clauses, and the whole text ===== -/
section Qv
variable {b : Nat → Int32} {n T s : Nat} {M0 : gIt}
theorem q_cl (st : qSt b n T s M0) {cs : List gCl} (hC : cs.length < 8) : ∀ (m f i : Nat) (ks gs : List Int32) (M : gIt), ks.length + m = 4 → 1 ≤ ks.length → ks.length = gs.length → m + 2 ≤ f → i ≤ n → pS s M0 cs i ks gs M → (∀ k p, (if pkB b n i = 44 then tkL b n T m (i + 1) ks gs else .inr (i, ks, gs)) = .inl (k, p) → ∃ M', p_X12_clause_19 (nI (8 * s + cs.length)) f M = some M' ∧ uB s M0 k p M') ∧ ∀ j ks' gs', (if pkB b n i = 44 then tkL b n T m (i + 1) ks gs else .inr (i, ks, gs)) = .inr (j, ks', gs') → ∃ M'', pS s M0 cs j ks' gs' M'' ∧ p_X12_clause_19 (nI (8 * s + cs.length)) f M = clE (nI (8 * s + cs.length)) M'' := by
  have hn := st.1.1
  have hs := st.2.1
  intro m
  induction m with
  | zero =>
    intro f i ks gs M hm h1 hl hf hi h
    obtain ⟨f, rfl⟩ : ∃ q, f = q + 1 + 1 := ⟨f - 2, by omega⟩
    obtain ⟨h28, hv, h161, hkt⟩ := id h
    have hr0 := rB_u st.1 hv.2.2.2.2
    rw [cl_eq hv.1 (q_here hr0 (by omega) h28)]
    by_cases c : pkB b n i = 44
    · have hlt := pkB_lt (b := b) (n := n) (i := i) (by rw [c]; decide)
      have hr1 := rB_w hr0 (j := 28) (by decide) (by decide) (nI (i + 1))
      have v1 := vC_28 hv (nI (i + 1))
      have m28 : gu2 M 149 28 (nI (i + 1)) 149 28 = nI (i + 1) := by rw [gu_sl, if_pos rfl]
      rw [if_pos c, if_pos ((hr_iff (by decide)).mpr c), h28, nI_1, gL_b, gL_b, tk_pre hr1 (z := 8 * s + cs.length) (by omega) m28 v1.1 (x2 := 0) (Or.inr ⟨rfl, by omega⟩) (lim := ks.length = 4) (fun q => absurd q (by decide)) (fun _ => by
        rw [gu_rd (by decide), h161]
        exact nI_eq (b := 4) (by omega) (by omega)) (kf := 4) (fun q => absurd q (by decide)) (fun _ => rfl) (by omega)]
      unfold tkL
      by_cases o : opT b n (i + 1) = true
      · have b1 := uB_v (vB_0 m28 (by omega) (k := 4) (p := i + 1) (by omega) (by omega) (by omega)) v1.2.2.2.2
        rw [if_pos o, if_pos o, if_pos (show ks.length = 4 by omega), gB_v, cl_bad b1.2.1]
        refine ⟨fun k p e => ?_, fun j ks' gs' e => by exact absurd e (by simp)⟩
        rw [Sum.inl.injEq, Prod.mk.injEq] at e
        rw [← e.1, ← e.2]
        exact ⟨_, rfl, b1⟩
      · have b1 := uB_v (vB_0 m28 (by omega) (k := 1) (p := i + 1) (by omega) (by omega) (by omega)) v1.2.2.2.2
        rw [if_neg o, if_neg o, gB_v, cl_bad b1.2.1]
        refine ⟨fun k p e => ?_, fun j ks' gs' e => by exact absurd e (by simp)⟩
        rw [Sum.inl.injEq, Prod.mk.injEq] at e
        rw [← e.1, ← e.2]
        exact ⟨_, rfl, b1⟩
    · rw [if_neg c, if_neg (fun q => c ((hr_iff (by decide)).mp q))]
      refine ⟨fun k p e => by exact absurd e (by simp), fun j ks' gs' e => ?_⟩
      rw [Sum.inr.injEq, Prod.mk.injEq, Prod.mk.injEq] at e
      obtain ⟨e1, e2, e3⟩ := e
      rw [← e1, ← e2, ← e3]
      exact ⟨M, h, rfl⟩
  | succ m ih =>
    intro f i ks gs M hm h1 hl hf hi h
    obtain ⟨f, rfl⟩ : ∃ q, f = q + 1 + 1 := ⟨f - 2, by omega⟩
    obtain ⟨h28, hv, h161, hkt⟩ := id h
    have hr0 := rB_u st.1 hv.2.2.2.2
    rw [cl_eq hv.1 (q_here hr0 (by omega) h28)]
    by_cases c : pkB b n i = 44
    · have hlt := pkB_lt (b := b) (n := n) (i := i) (by rw [c]; decide)
      have hr1 := rB_w hr0 (j := 28) (by decide) (by decide) (nI (i + 1))
      have v1 := vC_28 hv (nI (i + 1))
      have m28 : gu2 M 149 28 (nI (i + 1)) 149 28 = nI (i + 1) := by rw [gu_sl, if_pos rfl]
      have m161 : gu2 M 149 28 (nI (i + 1)) 161 (8 * s + cs.length) = nI ks.length := by rw [gu_rd (by decide)]; exact h161
      have mkt : kT s cs.length ks gs (gu2 M 149 28 (nI (i + 1))) := fun x hx => by rw [gu_rd (by decide), gu_rd (by decide), gu_rd (by decide)]; exact hkt x hx
      rw [if_pos c, if_pos ((hr_iff (by decide)).mpr c), h28, nI_1, gL_b, gL_b, tk_pre hr1 (z := 8 * s + cs.length) (by omega) m28 v1.1 (x2 := 0) (Or.inr ⟨rfl, by omega⟩) (lim := ks.length = 4) (fun q => absurd q (by decide)) (fun _ => by
        rw [m161]
        exact nI_eq (b := 4) (by omega) (by omega)) (kf := 4) (fun q => absurd q (by decide)) (fun _ => rfl) (by omega)]
      unfold tkL
      by_cases o : opT b n (i + 1) = true
      · rw [if_pos o, if_pos o, if_neg (show ¬ ks.length = 4 by omega)]
        obtain ⟨p1, p2⟩ := q_tkB hr1 (i := i + 1) (z := 8 * s + cs.length) (c := ks.length) (by omega) (by omega) (by omega) m28 v1.1 (x2 := 0) (Or.inr ⟨rfl, m161⟩) o
        cases eF : tk1 b n T (i + 1) with
        | inl g =>
          obtain ⟨M2, e2, b2⟩ := p1 g.1 g.2 eF
          have b3 := uB_v b2 v1.2.2.2.2
          rw [e2, gB_v, cl_bad b3.2.1]
          refine ⟨fun k p e => ?_, fun j ks' gs' e => by exact absurd e (by simp)⟩
          rw [Sum.inl.injEq] at e
          rw [e] at b3
          exact ⟨_, rfl, b3⟩
        | inr q =>
          obtain ⟨M2, e2, t2⟩ := p2 q.1 q.2.1 q.2.2 eF
          obtain ⟨o1, o2, -, -⟩ := tk1_ok (j := q.1) (w := q.2.1) (g := q.2.2) eF
          have p3 := pS_tk v1 mkt hl (by omega) t2
          rw [e2, gB_v]
          exact ih (f + 1) q.1 (ks ++ [q.2.1]) (gs ++ [q.2.2]) M2 (by rw [List.length_append, List.length_singleton]; omega) (by rw [List.length_append, List.length_singleton]; omega) (by rw [List.length_append, List.length_append, List.length_singleton, List.length_singleton]; omega) (by omega) o2 p3
      · have b1 := uB_v (vB_0 m28 (by omega) (k := 1) (p := i + 1) (by omega) (by omega) (by omega)) v1.2.2.2.2
        rw [if_neg o, if_neg o, gB_v, cl_bad b1.2.1]
        refine ⟨fun k p e => ?_, fun j ks' gs' e => by exact absurd e (by simp)⟩
        rw [Sum.inl.injEq, Prod.mk.injEq] at e
        rw [← e.1, ← e.2]
        exact ⟨_, rfl, b1⟩
    · rw [if_neg c, if_neg (fun q => c ((hr_iff (by decide)).mp q))]
      refine ⟨fun k p e => by exact absurd e (by simp), fun j ks' gs' e => ?_⟩
      rw [Sum.inr.injEq, Prod.mk.injEq, Prod.mk.injEq] at e
      obtain ⟨e1, e2, e3⟩ := e
      rw [← e1, ← e2, ← e3]
      exact ⟨M, h, rfl⟩
theorem clS_r {i : Nat} {t : Nat × List Int32 × List Int32} (e : tkL b n T 4 i [] [] = .inr t) : clS b n T i = match (if pkB b n t.1 = 40 then cnS b n T t.1 else .inr (t.1, [])) with | .inl f => .inl f | .inr q => .inr (q.1, t.2.1, t.2.2, q.2) := by
  unfold clS cnS
  rw [e]
  dsimp only
  by_cases c : pkB b n t.1 = 40
  · rw [if_pos c, if_pos c]
    cases eiS b n (piS b n T 8) 1 (t.1 + 1) with
    | inl f => rfl
    | inr q =>
      dsimp only
      by_cases d : pkB b n q.1 = 41
      · rw [if_pos d, if_pos d]
      · rw [if_neg d, if_neg d]
  · rw [if_neg c, if_neg c]
theorem clS_l {i : Nat} {f : Nat × Nat} (e : tkL b n T 4 i [] [] = .inl f) : clS b n T i = .inl f := by
  unfold clS
  rw [e]
theorem q_clause (st : qSt b n T s M0) {cs : List gCl} {i : Nat} {M : gIt} (hC : cs.length ≤ 8) (hi : i ≤ n) (hW : (wA cs).length ≤ i) (h : uS s M0 i cs M) : (∀ k p, (if opT b n i then (if cs.length = 8 then .inl (3, i) else clS b n T i) else .inl (1, i)) = .inl (k, p) → ∃ M', p_X12_clause M = some M' ∧ uB s M0 k p M') ∧ ∀ j c, (if opT b n i then (if cs.length = 8 then .inl (3, i) else clS b n T i) else .inl (1, i)) = .inr (j, c) → ∃ M', p_X12_clause M = some M' ∧ uS s M0 j (cs ++ [c]) M' := by
  have hn := st.1.1
  have hs := st.2.1
  obtain ⟨h28, hv⟩ := h
  have hr0 := rB_u st.1 hv.2.2.2.2
  have m4 : M 149 4 = nI s := by rw [hv.2.2.2.2.2.1 4 (by omega)]; exact st.2.2
  have e8 : (8 : Int32) * nI s + nI cs.length = nI (8 * s + cs.length) := by
    show nI 8 * nI s + _ = _
    rw [pk_mul, nI_add]
  unfold p_X12_clause
  rw [m4, hv.2.1, e8, gL_b, tk_pre hr0 (z := 8 * s + cs.length) hi h28 hv.1 (x2 := 1) (Or.inl rfl) (lim := cs.length = 8) (fun _ => by
    rw [hv.2.1]
    exact nI_eq (b := 8) (by omega) (by omega)) (fun q => absurd q (by decide)) (kf := 3) (fun _ => rfl) (fun q => absurd q (by decide)) (by omega), show gFu = 999999 + 1 from rfl]
  by_cases o : opT b n i = true
  · rw [if_pos o, if_pos o]
    by_cases c8 : cs.length = 8
    · have b1 := uB_v (vB_0 h28 (by omega) (k := 3) (p := i) (by omega) (by omega) (by omega)) hv.2.2.2.2
      rw [if_pos c8, if_pos c8, gB_v, cl_bad b1.2.1]
      refine ⟨fun k p e => ?_, fun j c e => by exact absurd e (by simp)⟩
      rw [Sum.inl.injEq, Prod.mk.injEq] at e
      rw [← e.1, ← e.2]
      exact ⟨_, rfl, b1⟩
    · rw [if_neg c8, if_neg c8]
      obtain ⟨p1, p2⟩ := q_tkB hr0 (i := i) (z := 8 * s + cs.length) (c := 0) hi (by omega) (by omega) h28 hv.1 (x2 := 1) (Or.inl ⟨rfl, rfl⟩) o
      have etk : tkL b n T 4 i [] [] = match tk1 b n T i with | .inl f => .inl f | .inr q => if pkB b n q.1 = 44 then tkL b n T 3 (q.1 + 1) [q.2.1] [q.2.2] else .inr (q.1, [q.2.1], [q.2.2]) := by
        conv => lhs; unfold tkL
        rw [if_pos o]
        rfl
      cases eF : tk1 b n T i with
      | inl g =>
        rw [eF] at etk
        dsimp only at etk
        obtain ⟨M2, e2, b2⟩ := p1 g.1 g.2 eF
        have b3 := uB_v b2 hv.2.2.2.2
        rw [clS_l etk, e2, gB_v, cl_bad b3.2.1]
        refine ⟨fun k p e => ?_, fun j c e => by exact absurd e (by simp)⟩
        rw [Sum.inl.injEq] at e
        rw [e] at b3
        exact ⟨_, rfl, b3⟩
      | inr q =>
        rw [eF] at etk
        dsimp only at etk
        obtain ⟨M2, e2, t2⟩ := p2 q.1 q.2.1 q.2.2 eF
        obtain ⟨o1, o2, -, -⟩ := tk1_ok (j := q.1) (w := q.2.1) (g := q.2.2) eF
        have p3 := pS_tk (ks := []) (gs := []) hv (fun x hx => absurd hx (Nat.not_lt_zero x)) rfl (by decide) t2
        obtain ⟨l1, l2⟩ := q_cl st (by omega) 3 (999999 + 1) q.1 [q.2.1] [q.2.2] M2 rfl (Nat.le_refl 1) rfl (by omega) o2 p3
        rw [← etk] at l1 l2
        rw [e2, gB_v]
        cases eT : tkL b n T 4 i [] [] with
        | inl g =>
          obtain ⟨M3, e3, b3⟩ := l1 g.1 g.2 eT
          rw [clS_l eT]
          refine ⟨fun k p e => ?_, fun j c e => by exact absurd e (by simp)⟩
          rw [Sum.inl.injEq] at e
          rw [e] at b3
          exact ⟨M3, e3, b3⟩
        | inr t =>
          obtain ⟨M3, p3, e3⟩ := l2 t.1 t.2.1 t.2.2 eT
          obtain ⟨t1, t2, t3, t4, t5, -⟩ := tkL_ok (b := b) (n := n) (T := T) (i0 := i) 4 i [] [] (Nat.le_refl _) rfl (by decide) (fun w h => absurd h (by simp)) (fun w h => absurd h (by simp)) t.1 t.2.1 t.2.2 eT
          obtain ⟨f1, f2⟩ := q_clE st (by omega) t2 (by omega) t5 p3
          rw [clS_r eT, e3]
          cases eC : (if pkB b n t.1 = 40 then cnS b n T t.1 else .inr (t.1, []) : gOut) with
          | inl g =>
            obtain ⟨M4, e4, b4⟩ := f1 g.1 g.2 eC
            refine ⟨fun k p e => ?_, fun j c e => by exact absurd e (by simp)⟩
            dsimp only at e
            rw [Sum.inl.injEq] at e
            rw [e] at b4
            exact ⟨M4, e4, b4⟩
          | inr g =>
            obtain ⟨M4, e4, b4⟩ := f2 g.1 g.2 eC
            refine ⟨fun k p e => by exact absurd e (by simp), fun j c e => ?_⟩
            dsimp only at e
            rw [Sum.inr.injEq, Prod.mk.injEq] at e
            rw [← e.1, ← e.2]
            exact ⟨M4, e4, b4⟩
  · have b1 := uB_v (vB_0 h28 (by omega) (k := 1) (p := i) (by omega) (by omega) (by omega)) hv.2.2.2.2
    rw [if_neg o, if_neg o, gB_v, cl_bad b1.2.1]
    refine ⟨fun k p e => ?_, fun j c e => by exact absurd e (by simp)⟩
    rw [Sum.inl.injEq, Prod.mk.injEq] at e
    rw [← e.1, ← e.2]
    exact ⟨_, rfl, b1⟩
theorem se_bad {M : gIt} (h : (M 149 30).toInt < 0) (x1 x2 x3 x4 x5 : Int32) (f : Nat) : p_X12_settle_104 x1 x2 x3 x4 (f + 1) M x5 = some (M 149 30, M) := by
  have hl : ¬ (0 : Int32) ≤ M 149 30 := by rw [Int32.le_iff_toInt_le]; simp only [Int32.reduceToInt]; omega
  unfold p_X12_settle_104
  by_cases q : x5 = 0
  · rw [if_pos q, if_neg hl]
  · rw [if_neg q, x12_nogood h, gB_v, if_pos p00, if_neg hl]
def sEn (s C : Nat) (x1 x2 x3 : Int32) (M : gIt) : gIt := gu2 (gu2 (gu2 (gu2 (gu2 M 157 s x1) 158 s x2) 159 s x3) 160 s (nI C)) 149 4 (nI (s + 1))
theorem se_ok {M : gIt} {C : Nat} (h : M 149 30 = 0) (hs : s < 10) (h4 : M 149 4 = nI s) (h31 : M 149 31 = nI C) (x1 x2 x3 x4 : Int32) (f : Nat) : p_X12_settle_104 x1 x2 x3 x4 (f + 1) M 0 = some (nI s, sEn s C x1 x2 x3 M) := by
  unfold p_X12_settle_104 sEn
  rw [if_pos p00, h, if_pos (show (0 : Int32) ≤ 0 by decide), h4, gck_t (gin_nI (by omega) (by omega)), gL_b, gu_rd (by decide), h4, gck_t (gin_nI (by omega) (by omega)), gL_b, gu_rd (by decide), gu_rd (by decide), h4, gck_t (gin_nI (by omega) (by omega)), gL_b, gu_rd (by decide), gu_rd (by decide), gu_rd (by decide), h31, gL_b, gu_rd (by decide), gu_rd (by decide), gu_rd (by decide), h4, gck_t (gin_nI (by omega) (by omega)), gL_b, gu_rd (by decide), gu_rd (by decide), gu_rd (by decide), gu_rd (by decide), h4, nI_1, gL_b, gL_b, gu_sl, if_pos rfl, nI_back, nI_clamp (by omega)]
theorem pk_end (h : rB b n T M0) (j : Nat) : pkB b n j = -1 ↔ n ≤ j := by
  unfold pkB
  by_cases c : j < n
  · rw [if_pos c]
    have := (h.2.2.1 j c).2.1
    constructor
    · intro q; rw [q] at this; exact absurd this (by decide)
    · intro q; omega
  · rw [if_neg c]
    exact ⟨fun _ => by omega, fun _ => rfl⟩
theorem q_settle (st : qSt b n T s M0) (x1 x2 x3 x4 : Int32) : ∀ (m f i : Nat) (cs : List gCl) (M : gIt), cs.length + m = 8 → m + 3 ≤ f → i ≤ n → (wA cs).length ≤ i → uS s M0 i cs M → (∀ k p, teL b n T m i cs = .inl (k, p) → ∃ M', p_X12_settle_104 x1 x2 x3 x4 f M 1 = some (-1000 * nI k - nI p, M') ∧ uFr s M0 M') ∧ ∀ cs', teL b n T m i cs = .inr cs' → ∃ M' j, p_X12_settle_104 x1 x2 x3 x4 f M 1 = some (nI s, sEn s cs'.length x1 x2 x3 M') ∧ uS s M0 j cs' M' := by
  have hn := st.1.1
  have hs := st.2.1
  intro m
  induction m with
  | zero =>
    intro f i cs M hm hf hi hW h
    obtain ⟨f, rfl⟩ : ∃ q, f = q + 1 + 1 := ⟨f - 2, by omega⟩
    have hcl := (q_clause st (by omega) hi hW h).1
    have h8 : cs.length = 8 := by omega
    unfold teL
    refine ⟨fun k p e => ?_, fun cs' e => ?_⟩
    · obtain ⟨M1, e1, b1⟩ := hcl k p (by
        by_cases o : opT b n i = true
        · rw [if_pos o, Sum.inl.injEq] at e
          rw [if_pos o, if_pos h8, e]
        · rw [if_neg o, Sum.inl.injEq] at e
          rw [if_neg o, e])
      conv in p_X12_settle_104 _ _ _ _ _ _ _ => unfold p_X12_settle_104
      rw [if_neg n10, x12_good h.2.1, gB_v, if_neg n10, e1, gB_v, x12_nogood b1.2.1, gB_v, if_pos p00, gB_v, if_pos p00, gB_v, if_pos p00, gL_b, gL_b, se_bad (by rw [gu_sl, if_neg (by decide)]; exact b1.2.1), gu_sl, if_neg (by decide), b1.1]
      exact ⟨_, rfl, uFr_28 b1.2.2 (by decide) _⟩
    · by_cases o : opT b n i = true
      · rw [if_pos o] at e; exact absurd e (by simp)
      · rw [if_neg o] at e; exact absurd e (by simp)
  | succ m ih =>
    intro f i cs M hm hf hi hW h
    obtain ⟨f, rfl⟩ : ∃ q, f = q + 1 + 1 := ⟨f - 2, by omega⟩
    have hcl := q_clause st (by omega) hi hW h
    have h8 : ¬ cs.length = 8 := by omega
    rw [if_neg h8] at hcl
    have flt : ∀ k p, (if opT b n i then clS b n T i else .inl (1, i)) = .inl (k, p) → ∃ M', p_X12_settle_104 x1 x2 x3 x4 (f + 1 + 1) M 1 = some (-1000 * nI k - nI p, M') ∧ uFr s M0 M' := fun k p e => by
      obtain ⟨M1, e1, b1⟩ := hcl.1 k p e
      conv in p_X12_settle_104 _ _ _ _ _ _ _ => unfold p_X12_settle_104
      rw [if_neg n10, x12_good h.2.1, gB_v, if_neg n10, e1, gB_v, x12_nogood b1.2.1, gB_v, if_pos p00, gB_v, if_pos p00, gB_v, if_pos p00, gL_b, gL_b, se_bad (by rw [gu_sl, if_neg (by decide)]; exact b1.2.1), gu_sl, if_neg (by decide), b1.1]
      exact ⟨_, rfl, uFr_28 b1.2.2 (by decide) _⟩
    unfold teL
    by_cases o : opT b n i = true
    · rw [if_pos o] at flt hcl ⊢
      cases eC : clS b n T i with
      | inl g =>
        refine ⟨fun k p e => flt k p (by rw [eC]; dsimp only at e; rw [Sum.inl.injEq] at e; rw [e]), fun cs' e => by exact absurd e (by simp)⟩
      | inr q =>
        obtain ⟨M1, e1, u1⟩ := hcl.2 q.1 q.2 eC
        obtain ⟨⟨k1, k2, -⟩, k6, -⟩ := clS_ok (j := q.1) (c := q.2) eC
        have hr1 := rB_u st.1 u1.2.2.2.2.2
        have hl : (cs ++ [q.2]).length = cs.length + 1 := by rw [List.length_append]; rfl
        have m30 := u1.2.1
        have base : p_X12_settle_104 x1 x2 x3 x4 (f + 1 + 1) M 1 = (gB (α := Int32) (if nI n ≤ M1 149 28 then some (0 : Int32) else some (1 : Int32)) fun ph54 => gB (α := gIt) (if ph54 = 0 then some M1 else gB (p_X12_here M1) fun r68 => if r68 = (59 : Int32) then some M1 else gB (p_X12_wrongs M1 (1 : Int32) (M1 149 28)) fun r71 => some r71) fun ph58 => if ph54 = 0 then gL (((ph58 149 28) + (0 : Int32))) fun z63 => gL (gu2 ph58 149 28 z63) fun I64 => p_X12_settle_104 x1 x2 x3 x4 (f + 1) I64 ph54 else gL (((ph58 149 28) + (1 : Int32))) fun z65 => gL (gu2 ph58 149 28 z65) fun I66 => p_X12_settle_104 x1 x2 x3 x4 (f + 1) I66 ph54) := by
          conv => lhs; unfold p_X12_settle_104
          rw [if_neg n10, x12_good h.2.1, gB_v, if_neg n10, e1, gB_v, x12_good m30, gB_v, if_neg n10, hr1.2.1]
        dsimp only
        rw [base]
        by_cases c1 : pkB b n q.1 = -1
        · have hnj := (pk_end st.1 q.1).mp c1
          rw [if_pos c1, if_pos (show nI n ≤ M1 149 28 by rw [u1.1]; exact nI_le hnj (by omega)), gB_v, if_pos p00, gB_v, if_pos p00, gL_b, gL_b, u1.1, Int32.add_zero]
          refine ⟨fun k p e => by exact absurd e (by simp), fun cs' e => ?_⟩
          rw [Sum.inr.injEq] at e
          rw [← e]
          have v2 := vC_28 u1.2 (nI q.1)
          refine ⟨gu2 M1 149 28 (nI q.1), q.1, ?_, by rw [gu_sl, if_pos rfl], v2⟩
          rw [se_ok v2.1 hs (by rw [v2.2.2.2.2.2.1 4 (by omega)]; exact st.2.2) v2.2.1]
        · have hnj : ¬ n ≤ q.1 := fun z => c1 ((pk_end st.1 q.1).mpr z)
          rw [if_neg c1, if_neg (show ¬ nI n ≤ M1 149 28 by rw [u1.1]; exact nI_ge (by omega) (by omega)), gB_v, if_neg n10, q_here hr1 (by omega) u1.1, gB_v]
          by_cases c2 : pkB b n q.1 = 59
          · rw [if_pos c2, if_pos ((hr_iff (by decide)).mpr c2), gB_v, if_neg n10, u1.1, nI_1, gL_b, gL_b]
            exact ih (f + 1) (q.1 + 1) (cs ++ [q.2]) _ (by omega) (by omega) (by omega) (by rw [wA_a, List.length_append]; omega) ⟨by rw [gu_sl, if_pos rfl], vC_28 u1.2 _⟩
          · have b1 := uB_v (vB_0 u1.1 (by omega) (k := 1) (p := q.1) (by omega) (by omega) (by omega)) u1.2.2.2.2.2
            rw [if_neg c2, if_neg (fun z => c2 ((hr_iff (by decide)).mp z)), show p_X12_wrongs M1 1 (M1 149 28) = _ from q_wrong0 m30 (nI 1), u1.1, gB_v, gB_v, if_neg n10, gL_b, gL_b, se_bad (by rw [gu_sl, if_neg (by decide)]; exact b1.2.1)]
            refine ⟨fun k p e => ?_, fun cs' e => by exact absurd e (by simp)⟩
            rw [Sum.inl.injEq, Prod.mk.injEq] at e
            rw [← e.1, ← e.2]
            refine ⟨_, by rw [gu_sl, if_neg (by decide), b1.1], uFr_28 b1.2.2 (by decide) _⟩
    · rw [if_neg o] at flt ⊢
      exact ⟨fun k p e => flt k p (by rw [Sum.inl.injEq] at e; rw [e]), fun cs' e => by exact absurd e (by simp)⟩
end Qv
