/-! ===== the reference reads clauses ===== -/
def clE (x1 : Int32) (I : gIt) : Option gIt :=
  gL ((I 149 32)) fun z33 =>
    gck (gin x1 80) (
    gL (gu2 I 162 (x1).toNatClampNeg z33) fun I35 =>
    gB (p_X12_here I35) fun r36 =>
    gB (α := gIt) (
    if r36 = (40 : Int32) then
    gB (p_X12_condition I35) fun r48 =>
    some r48
    else
    some I35) fun ph38 =>
    gL ((ph38 149 32)) fun z42 =>
    gck (gin x1 80) (
    gL (gu2 ph38 163 (x1).toNatClampNeg z42) fun I44 =>
    gL (((I44 149 31) + (1 : Int32))) fun z45 =>
    gL (gu2 I44 149 31 z45) fun I46 =>
    some I46))
def uFr (s : Nat) (M0 M : gIt) : Prop := (∀ x, x ≠ 149 → (x < 161 ∨ 169 < x) → M x = M0 x) ∧ (∀ j, (j < 28 ∨ j = 29 ∨ 34 < j) → M 149 j = M0 149 j) ∧ (∀ k, k < 8 * s → M 161 k = M0 161 k ∧ M 162 k = M0 162 k ∧ M 163 k = M0 163 k) ∧ (∀ k, k < 32 * s → M 164 k = M0 164 k ∧ M 165 k = M0 165 k ∧ M 166 k = M0 166 k) ∧ ∀ k, k < 100 * s → M 167 k = M0 167 k ∧ M 168 k = M0 168 k
def uB (s : Nat) (M0 : gIt) (k p : Nat) (M : gIt) : Prop := M 149 30 = -1000 * nI k - nI p ∧ (M 149 30).toInt < 0 ∧ uFr s M0 M
def kT (s k : Nat) (ks gs : List Int32) (M : gIt) : Prop := ∀ x, x < ks.length → M 164 (4 * (8 * s + k) + x) = (if 16 ≤ (gtW ks x).toInt then 1 else 0) ∧ M 165 (4 * (8 * s + k) + x) = gma (gtW ks x) ∧ M 166 (4 * (8 * s + k) + x) = gtW gs x
def clK (s : Nat) (cs : List gCl) (M : gIt) : Prop := ∀ k, k < cs.length → ∃ c, cs[k]? = some c ∧ c.1.length ≤ 4 ∧ (M 161 (8 * s + k) = nI c.1.length ∧ kT s k c.1 c.2.1 M) ∧ M 162 (8 * s + k) = nI (wA (cs.take k)).length ∧ M 163 (8 * s + k) = nI (wA (cs.take (k + 1))).length
def wdM (s : Nat) (W : List Int32) (M : gIt) : Prop := M 149 32 = nI W.length ∧ ∀ k, k < W.length → M 167 (100 * s + k) = gmc (gtW W k) ∧ M 168 (100 * s + k) = gma (gtW W k)
def vC (s : Nat) (M0 : gIt) (cs : List gCl) (M : gIt) : Prop := M 149 30 = 0 ∧ M 149 31 = nI cs.length ∧ wdM s (wA cs) M ∧ clK s cs M ∧ uFr s M0 M
def uS (s : Nat) (M0 : gIt) (i : Nat) (cs : List gCl) (M : gIt) : Prop := M 149 28 = nI i ∧ vC s M0 cs M
def pS (s : Nat) (M0 : gIt) (cs : List gCl) (i : Nat) (ks gs : List Int32) (M : gIt) : Prop := M 149 28 = nI i ∧ vC s M0 cs M ∧ M 161 (8 * s + cs.length) = nI ks.length ∧ kT s cs.length ks gs M
theorem uFr_28 {s : Nat} {M0 M : gIt} (h : uFr s M0 M) {j : Nat} (hj : ¬ (j < 28 ∨ j = 29 ∨ 34 < j)) (v : Int32) : uFr s M0 (gu2 M 149 j v) := by
  obtain ⟨h1, h2, h3, h4, h5⟩ := h
  refine ⟨fun x q1 q2 => by rw [gu2_ne q1]; exact h1 x q1 q2, fun k hk => by rw [gu_sl, if_neg (fun q => hj (by rw [← q]; exact hk))]; exact h2 k hk, fun k hk => ?_, fun k hk => ?_, fun k hk => ?_⟩
  · rw [gu_rd (by decide), gu_rd (by decide), gu_rd (by decide)]; exact h3 k hk
  · rw [gu_rd (by decide), gu_rd (by decide), gu_rd (by decide)]; exact h4 k hk
  · rw [gu_rd (by decide), gu_rd (by decide)]; exact h5 k hk
theorem uB_v {s : Nat} {M0 M M' : gIt} {k p : Nat} (h : vB M k p M') (hu : uFr s M0 M) : uB s M0 k p M' := by
  obtain ⟨h1, h2, h3, -, h5⟩ := h
  obtain ⟨u1, u2, u3, u4, u5⟩ := hu
  exact ⟨h1, h2, fun x q1 q2 => by rw [h3 x q1]; exact u1 x q1 q2, fun j hj => by rw [h5 j (by omega) (by omega)]; exact u2 j hj, fun k hk => by rw [h3 161 (by decide), h3 162 (by decide), h3 163 (by decide)]; exact u3 k hk, fun k hk => by rw [h3 164 (by decide), h3 165 (by decide), h3 166 (by decide)]; exact u4 k hk, fun k hk => by rw [h3 167 (by decide), h3 168 (by decide)]; exact u5 k hk⟩
theorem vC_28 {s : Nat} {M0 M : gIt} {cs : List gCl} (h : vC s M0 cs M) (v : Int32) : vC s M0 cs (gu2 M 149 28 v) := by
  obtain ⟨h1, h2, ⟨h3, h3'⟩, h4, h5⟩ := h
  refine ⟨by rw [gu_sl, if_neg (by decide)]; exact h1, by rw [gu_sl, if_neg (by decide)]; exact h2, ⟨by rw [gu_sl, if_neg (by decide)]; exact h3, fun k hk => by rw [gu_rd (by decide), gu_rd (by decide)]; exact h3' k hk⟩, fun k hk => ?_, uFr_28 h5 (by decide) v⟩
  obtain ⟨c, e, l, ⟨q1, q2⟩, q3, q4⟩ := h4 k hk
  exact ⟨c, e, l, ⟨by rw [gu_rd (by decide)]; exact q1, fun x hx => by rw [gu_rd (by decide), gu_rd (by decide), gu_rd (by decide)]; exact q2 x hx⟩, by rw [gu_rd (by decide)]; exact q3, by rw [gu_rd (by decide)]; exact q4⟩
theorem vC_tk {s : Nat} {M0 M M' : gIt} {cs : List gCl} (h : vC s M0 cs M) {c j : Nat} {w g : Int32} (hc : c ≤ 3) (ht : tkR M (8 * s + cs.length) c j w g M') : vC s M0 cs M' := by
  obtain ⟨h1, h2, ⟨h3, h3'⟩, h4, ⟨u1, u2, u3, u4, u5⟩⟩ := h
  obtain ⟨t1, t2, t3, t4, t5, t6, t7⟩ := ht
  have e167 := t1 167 (by decide) (by decide) (by decide) (by decide) (by decide)
  have e168 := t1 168 (by decide) (by decide) (by decide) (by decide) (by decide)
  have e162 := t1 162 (by decide) (by decide) (by decide) (by decide) (by decide)
  have e163 := t1 163 (by decide) (by decide) (by decide) (by decide) (by decide)
  refine ⟨by rw [t3 30 (by decide)]; exact h1, by rw [t3 31 (by decide)]; exact h2, ⟨by rw [t3 32 (by decide)]; exact h3, fun k hk => by rw [e167, e168]; exact h3' k hk⟩, fun k hk => ?_, fun x q1 q2 => by rw [t1 x q1 (by omega) (by omega) (by omega) (by omega)]; exact u1 x q1 q2, fun j hj => by rw [t3 j (by omega)]; exact u2 j hj, fun k hk => by rw [t4, if_neg (by omega), e162, e163]; exact u3 k hk, fun k hk => by rw [t5, t6, t7, if_neg (by omega), if_neg (by omega), if_neg (by omega)]; exact u4 k hk, fun k hk => by rw [e167, e168]; exact u5 k hk⟩
  obtain ⟨d, e, l, ⟨q1, q2⟩, q3, q4⟩ := h4 k hk
  refine ⟨d, e, l, ⟨by rw [t4, if_neg (by omega)]; exact q1, fun x hx => ?_⟩, by rw [e162]; exact q3, by rw [e163]; exact q4⟩
  have hne : ¬ 4 * (8 * s + k) + x = 4 * (8 * s + cs.length) + c := by omega
  rw [t5, t6, t7, if_neg hne, if_neg hne, if_neg hne]
  exact q2 x hx
theorem pS_tk {s : Nat} {M0 M M' : gIt} {cs : List gCl} (h : vC s M0 cs M) {ks gs : List Int32} (hk : kT s cs.length ks gs M) (hl : ks.length = gs.length) (h3 : ks.length ≤ 3) {j : Nat} {w g : Int32} (ht : tkR M (8 * s + cs.length) ks.length j w g M') : pS s M0 cs j (ks ++ [w]) (gs ++ [g]) M' := by
  have hv := vC_tk h h3 ht
  obtain ⟨t1, t2, t3, t4, t5, t6, t7⟩ := ht
  refine ⟨t2, hv, by rw [t4, if_pos rfl, List.length_append]; rfl, fun x hx => ?_⟩
  rw [List.length_append, List.length_singleton] at hx
  rw [t5, t6, t7]
  by_cases e : x = ks.length
  · rw [e, if_pos rfl, if_pos rfl, if_pos rfl, gtW_r, hl, gtW_r]
    exact ⟨rfl, rfl, rfl⟩
  · have hne : ¬ 4 * (8 * s + cs.length) + x = 4 * (8 * s + cs.length) + ks.length := by omega
    rw [if_neg hne, if_neg hne, if_neg hne, gtW_l (by omega), gtW_l (by omega)]
    exact hk x (by omega)
section Ql
variable {b : Nat → Int32} {n T s : Nat} {M0 : gIt}
theorem rB_u {M : gIt} (h : rB b n T M0) (hu : uFr s M0 M) : rB b n T M := ⟨h.1, by rw [hu.2.1 29 (by omega)]; exact h.2.1, fun i hi => by rw [hu.1 150 (by decide) (by omega)]; exact h.2.2.1 i hi, by rw [hu.2.1 35 (by omega)]; exact h.2.2.2.1, h.2.2.2.2⟩
/-- a condition in its bracket -/
def cnS (b : Nat → Int32) (n T i : Nat) : gOut := match eiS b n (piS b n T 8) 1 (i + 1) with
  | .inl f => .inl f
  | .inr q => if pkB b n q.1 = 41 then .inr (q.1 + 1, q.2) else .inl (1, q.1)
theorem q_cond {B : gIt} (st : qSt b n T s B) {i : Nat} {W : List Int32} (hW : W.length ≤ i) (h28 : B 149 28 = nI i) (h30 : B 149 30 = 0) (hw : wdM s W B) (hpk : pkB b n i = 40) : (∀ k p, cnS b n T i = .inl (k, p) → ∃ M', p_X12_condition B = some M' ∧ qF s B k p M') ∧ ∀ j ws, cnS b n T i = .inr (j, ws) → ∃ M', p_X12_condition B = some M' ∧ qS s B j 0 [] (W ++ ws) M' := by
  have hn := st.1.1
  have hlt := pkB_lt (b := b) (n := n) (i := i) (by rw [hpk]; decide)
  have q0 : qS s B i 0 [] W (gu2 (gu2 B 149 34 0) 149 33 0) := ⟨by rw [gu_sl, if_neg (by decide), gu_sl, if_neg (by decide)]; exact h28, by rw [gu_sl, if_neg (by decide), gu_sl, if_neg (by decide)]; exact h30, by rw [gu_sl, if_pos rfl]; rfl, by rw [gu_sl, if_neg (by decide), gu_sl, if_pos rfl]; rfl, trivial, by rw [gu_sl, if_neg (by decide), gu_sl, if_neg (by decide)]; exact hw.1, fun k hk => by rw [gu_rd (by decide), gu_rd (by decide), gu_rd (by decide), gu_rd (by decide)]; exact hw.2 k hk, fun x q1 q2 q3 q4 => by rw [gu2_ne q1, gu2_ne q1], fun j q1 q2 q3 q4 q5 => by rw [gu_sl, if_neg q3, gu_sl, if_neg q4], fun k hk => by rw [gu_rd (by decide), gu_rd (by decide), gu_rd (by decide), gu_rd (by decide)]; exact ⟨rfl, rfl⟩⟩
  obtain ⟨M1, e1, k1⟩ := q_opens st q0 (by omega) (by omega) (by decide)
  rw [(hr_iff (by decide)).mpr hpk] at k1
  have ex : p_X12_condition B = p_X12_condition_16 gFu M1 1 := by
    unfold p_X12_condition
    rw [gL_b, gL_b, e1, gB_v]
  have hp := q_ei st (L := 1) (F := piS b n T 8) (fun i => piS_ok 8 1 i (by omega)) (q_piece st 8 1 (by omega) (by omega)) (σ := [40]) (W := W) (oc40 []) (show ¬ (40 : Int32) = 33 by decide) (i := i + 1) (M := M1) (by omega) (by omega) (by rw [List.length_singleton]; omega) (by decide) k1
  have flt : ∀ {k p m : Nat}, m ≤ n + 3 → stD s B M1 1 k p m → ∃ M', p_X12_condition B = some M' ∧ qF s B k p M' := fun {k p m} hm ⟨q, M', hq, hf, e'⟩ => by
    refine ⟨M', ?_, hf⟩
    have := e' (gFu - q)
    rw [show gFu - q + q = gFu by unfold gFu; omega] at this
    rw [ex]
    exact this
  unfold cnS
  cases eF : eiS b n (piS b n T 8) 1 (i + 1) with
  | inl g =>
    refine ⟨fun k p e => ?_, fun j ws e => by exact absurd e (by simp)⟩
    rw [Sum.inl.injEq] at e
    exact flt (by omega) (hp.1 k p (by rw [eF, e]))
  | inr g =>
    obtain ⟨z38, z124, pen⟩ := hp.2 g.1 g.2 eF
    obtain ⟨o1, o2, o3, -, -⟩ := eiS_ok (b := b) (F := piS b n T 8) (L := 1) (fun i => piS_ok 8 1 i (by omega)) (i + 1) g.1 g.2 eF
    obtain ⟨cl1, cl2⟩ := q_close st (L := 0) (σ := []) o1 o2 (by omega) (by omega) o3 (by rw [List.length_nil]; omega) z38 z124 pen
    by_cases c3 : pkB b n g.1 = 41
    · refine ⟨fun k p e => ?_, fun j ws e => ?_⟩
      · dsimp only at e; rw [if_pos c3] at e; exact absurd e (by simp)
      · dsimp only at e
        rw [if_pos c3, Sum.inr.injEq, Prod.mk.injEq] at e
        rw [← e.1, ← e.2]
        obtain ⟨k5, M5, hk5, c5, s5⟩ := cl1 c3
        refine ⟨M5, ?_, c5⟩
        have := s5 (gFu - k5)
        rw [show gFu - k5 + k5 = gFu by unfold gFu; omega] at this
        have m34 : M5 149 34 = 0 := c5.2.2.2.1
        rw [ex, this, m34, if_pos (show (0 : Int32) ≤ 0 by decide), show gFu - k5 = (gFu - k5 - 1) + 1 by unfold gFu; omega, cd_0 c5.2.1 m34]
    · refine ⟨fun k p e => ?_, fun j ws e => ?_⟩
      · dsimp only at e
        rw [if_neg c3, Sum.inl.injEq, Prod.mk.injEq] at e
        rw [← e.1, ← e.2]
        exact flt (by omega) (cl2 c3)
      · dsimp only at e; rw [if_neg c3] at e; exact absurd e (by simp)
theorem cl_bad {M : gIt} (h : (M 149 30).toInt < 0) (x1 : Int32) (f : Nat) : p_X12_clause_19 x1 (f + 1) M = some M := by
  unfold p_X12_clause_19
  rw [x12_nogood h, gB_v, if_pos p00, gB_v, if_pos p00]
theorem cl_eq {M : gIt} {c : Int32} (h : M 149 30 = 0) (hr : p_X12_here M = some c) (x1 : Int32) (f : Nat) : p_X12_clause_19 x1 (f + 1) M = if c = 44 then (gL (((M 149 28) + (1 : Int32))) fun z50 => gL (gu2 M 149 28 z50) fun I51 => gB (p_X12_taker I51 x1 (0 : Int32)) fun r52 => p_X12_clause_19 x1 f r52) else clE x1 M := by
  conv => lhs; unfold p_X12_clause_19
  rw [x12_good h, gB_v, if_neg n10, hr, gB_v]
  by_cases q : c = 44
  · rw [if_pos q, if_pos q]
  · rw [if_neg q, if_neg q, gB_v, if_neg n10]
    unfold clE
    rfl
/-- a clause's end: its condition, its bounds -/
theorem q_clE (st : qSt b n T s M0) {cs : List gCl} (hC : cs.length < 8) {j : Nat} {ks gs : List Int32} {M : gIt} (hj : j ≤ n) (hW : (wA cs).length ≤ j) (hk4 : ks.length ≤ 4) (h : pS s M0 cs j ks gs M) : (∀ k p, (if pkB b n j = 40 then cnS b n T j else .inr (j, [])) = .inl (k, p) → ∃ M', clE (nI (8 * s + cs.length)) M = some M' ∧ uB s M0 k p M') ∧ ∀ j' ws, (if pkB b n j = 40 then cnS b n T j else .inr (j, [])) = .inr (j', ws) → ∃ M', clE (nI (8 * s + cs.length)) M = some M' ∧ uS s M0 j' (cs ++ [(ks, gs, ws)]) M' := by
  have hn := st.1.1
  have hs := st.2.1
  obtain ⟨h28, ⟨h30, h31, hwd, hcl, hu⟩, h161, hkt⟩ := h
  generalize hz : 8 * s + cs.length = z at h161
  have hz80 : z < 80 := by omega
  generalize hB : gu2 M 162 z (nI (wA cs).length) = B
  have Bx : ∀ x, x ≠ 162 → B x = M x := fun x hx => by rw [← hB, gu2_ne hx]
  have B162 : ∀ k, B 162 k = if k = z then nI (wA cs).length else M 162 k := fun k => by rw [← hB, gu_sl]
  have hrB0 : rB b n T B := by
    have := rB_u st.1 hu
    exact ⟨this.1, by rw [Bx 149 (by decide)]; exact this.2.1, fun i hi => by rw [Bx 150 (by decide)]; exact this.2.2.1 i hi, by rw [Bx 149 (by decide)]; exact this.2.2.2.1, this.2.2.2.2⟩
  have stB : qSt b n T s B := ⟨hrB0, hs, by rw [Bx 149 (by decide), hu.2.1 4 (by omega)]; exact st.2.2⟩
  have b28 : B 149 28 = nI j := by rw [Bx 149 (by decide)]; exact h28
  have b30 : B 149 30 = 0 := by rw [Bx 149 (by decide)]; exact h30
  have bwd : wdM s (wA cs) B := ⟨by rw [Bx 149 (by decide)]; exact hwd.1, fun k hk => by rw [Bx 167 (by decide), Bx 168 (by decide)]; exact hwd.2 k hk⟩
  -- after the condition
  have fr : ∀ N, cFr s B N → uFr s M0 N := fun N hc => ⟨fun x q1 q2 => by rw [hc.1 x q1 (by omega) (by omega) (by omega), Bx x (by omega)]; exact hu.1 x q1 q2, fun k hk => by rw [hc.2.1 k (by omega) (by omega) (by omega) (by omega) (by omega), Bx 149 (by decide)]; exact hu.2.1 k hk, fun k hk => by
    rw [hc.1 161 (by decide) (by decide) (by decide) (by decide), hc.1 162 (by decide) (by decide) (by decide) (by decide), hc.1 163 (by decide) (by decide) (by decide) (by decide), Bx 161 (by decide), B162, if_neg (by omega), Bx 163 (by decide)]
    exact hu.2.2.1 k hk, fun k hk => by
    rw [hc.1 164 (by decide) (by decide) (by decide) (by decide), hc.1 165 (by decide) (by decide) (by decide) (by decide), hc.1 166 (by decide) (by decide) (by decide) (by decide), Bx 164 (by decide), Bx 165 (by decide), Bx 166 (by decide)]
    exact hu.2.2.2.1 k hk, fun k hk => by
    rw [(hc.2.2 k hk).1, (hc.2.2 k hk).2, Bx 167 (by decide), Bx 168 (by decide)]
    exact hu.2.2.2.2 k hk⟩
  have u163 : ∀ {N : gIt} {v : Int32}, uFr s M0 N → uFr s M0 (gu2 N 163 z v) := fun {N v} h => ⟨fun x q1 q2 => by rw [gu2_ne (by omega)]; exact h.1 x q1 q2, fun k hk => by rw [gu_rd (by decide)]; exact h.2.1 k hk, fun k hk => by rw [gu_rd (by decide), gu_rd (by decide), gu_sl, if_neg (by omega)]; exact h.2.2.1 k hk, fun k hk => by rw [gu_rd (by decide), gu_rd (by decide), gu_rd (by decide)]; exact h.2.2.2.1 k hk, fun k hk => by rw [gu_rd (by decide), gu_rd (by decide)]; exact h.2.2.2.2 k hk⟩
  have endG : ∀ (N : gIt) (j' : Nat) (ws : List Int32), N 149 28 = nI j' → N 149 30 = 0 → wdM s (wA cs ++ ws) N → cFr s B N → uS s M0 j' (cs ++ [(ks, gs, ws)]) (gu2 (gu2 N 163 z (N 149 32)) 149 31 (gu2 N 163 z (N 149 32) 149 31 + 1)) := by
    intro N j' ws n28 n30 nwd hc
    have n31 : N 149 31 = nI cs.length := by rw [hc.2.1 31 (by decide) (by decide) (by decide) (by decide) (by decide), Bx 149 (by decide)]; exact h31
    have ew : wA (cs ++ [(ks, gs, ws)]) = wA cs ++ ws := wA_a cs _
    rw [gu_rd (show (149 : Nat) ≠ 163 by decide), n31, nI_1]
    generalize hQ : gu2 (gu2 N 163 z (N 149 32)) 149 31 (nI (cs.length + 1)) = Q
    have Qx : ∀ x, x ≠ 149 → x ≠ 163 → Q x = N x := fun x q1 q2 => by rw [← hQ, gu2_ne q1, gu2_ne q2]
    have Q149 : ∀ k, k ≠ 31 → Q 149 k = N 149 k := fun k hk => by rw [← hQ, gu_sl, if_neg hk, gu_rd (by decide)]
    have Q163 : ∀ k, Q 163 k = if k = z then N 149 32 else N 163 k := fun k => by rw [← hQ, gu_rd (by decide), gu_sl]
    have hll : (cs ++ [(ks, gs, ws)]).length = cs.length + 1 := by rw [List.length_append]; rfl
    refine ⟨by rw [Q149 28 (by decide)]; exact n28, by rw [Q149 30 (by decide)]; exact n30, by rw [← hQ, gu_sl, if_pos rfl, hll], ⟨by rw [Q149 32 (by decide), ew]; exact nwd.1, fun k hk => by rw [ew] at hk ⊢; rw [Qx 167 (by decide) (by decide), Qx 168 (by decide) (by decide)]; exact nwd.2 k hk⟩, fun k hk => ?_, by rw [← hQ]; exact uFr_28 (u163 (fr N hc)) (by decide) _⟩
    have f161 : Q 161 = M 161 := by rw [Qx 161 (by decide) (by decide), hc.1 161 (by decide) (by decide) (by decide) (by decide), Bx 161 (by decide)]
    have f162 : ∀ k, Q 162 k = if k = z then nI (wA cs).length else M 162 k := fun k => by rw [Qx 162 (by decide) (by decide), hc.1 162 (by decide) (by decide) (by decide) (by decide), B162]
    have f163 : ∀ k, Q 163 k = if k = z then nI (wA cs ++ ws).length else M 163 k := fun k => by rw [Q163, nwd.1, hc.1 163 (by decide) (by decide) (by decide) (by decide), Bx 163 (by decide)]
    have f164 : Q 164 = M 164 := by rw [Qx 164 (by decide) (by decide), hc.1 164 (by decide) (by decide) (by decide) (by decide), Bx 164 (by decide)]
    have f165 : Q 165 = M 165 := by rw [Qx 165 (by decide) (by decide), hc.1 165 (by decide) (by decide) (by decide) (by decide), Bx 165 (by decide)]
    have f166 : Q 166 = M 166 := by rw [Qx 166 (by decide) (by decide), hc.1 166 (by decide) (by decide) (by decide) (by decide), Bx 166 (by decide)]
    rw [hll] at hk
    unfold kT
    rw [f161, f162, f163, f164, f165, f166]
    by_cases e : k = cs.length
    · refine ⟨(ks, gs, ws), by rw [e]; simp, hk4, ⟨by rw [e, hz]; exact h161, fun x hx => by rw [e]; exact hkt x hx⟩, ?_, ?_⟩
      · rw [e, hz, if_pos rfl, List.take_append_of_le_length (Nat.le_refl _), List.take_length]
      · rw [e, hz, if_pos rfl, List.take_of_length_le (by rw [hll]; omega), ew]
    · obtain ⟨c, ec, l, q1, q3, q4⟩ := hcl k (by omega)
      refine ⟨c, by rw [List.getElem?_append_left (by omega)]; exact ec, l, q1, ?_, ?_⟩
      · rw [if_neg (by omega), List.take_append_of_le_length (by omega)]; exact q3
      · rw [if_neg (by omega), List.take_append_of_le_length (by omega)]; exact q4
  unfold clE
  rw [gL_b, gck_t (gin_nI (by omega) (by omega)), gL_b, nI_clamp (by omega), hwd.1, hB, q_here hrB0 (by omega) b28, gB_v]
  by_cases c : pkB b n j = 40
  · rw [if_pos c, if_pos ((hr_iff (by decide)).mpr c)]
    obtain ⟨p1, p2⟩ := q_cond stB (W := wA cs) hW b28 b30 bwd c
    refine ⟨fun k p e => ?_, fun j' ws e => ?_⟩
    · obtain ⟨N, eN, i1, σ1, -, -, bN⟩ := p1 k p e
      rw [eN, gB_v, gB_v, gL_b, gck_t (gin_nI (by omega) (by omega)), gL_b, gL_b, gL_b]
      refine ⟨_, rfl, ?_, ?_, uFr_28 (u163 (fr N bN.2.2.2.2.2)) (by decide) _⟩
      · rw [gu_sl, if_neg (by decide), gu_rd (by decide)]; exact bN.2.1
      · rw [gu_sl, if_neg (by decide), gu_rd (by decide)]; exact bN.2.2.1
    · obtain ⟨N, eN, qN⟩ := p2 j' ws e
      rw [eN, gB_v, gB_v, gL_b, gck_t (gin_nI (by omega) (by omega)), gL_b, gL_b, gL_b]
      exact ⟨_, rfl, endG N j' ws qN.1 qN.2.1 ⟨qN.2.2.2.2.2.1, qN.2.2.2.2.2.2.1⟩ qN.2.2.2.2.2.2.2⟩
  · rw [if_neg c, if_neg (fun q => c ((hr_iff (by decide)).mp q)), gB_v, gL_b, gck_t (gin_nI (by omega) (by omega)), gL_b, gL_b, gL_b]
    refine ⟨fun k p e => by exact absurd e (by simp), fun j' ws e => ?_⟩
    rw [Sum.inr.injEq, Prod.mk.injEq] at e
    rw [← e.1, ← e.2]
    exact ⟨_, rfl, endG B j [] b28 b30 (by rw [List.append_nil]; exact bwd) ⟨fun _ _ _ _ _ => rfl, fun _ _ _ _ _ _ => rfl, fun _ _ => ⟨rfl, rfl⟩⟩⟩
end Ql
