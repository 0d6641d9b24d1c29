/-! ===== the reference reads a settlement's conditions: all of them ===== -/
theorem oc40 (σ : List Int32) : ¬ isOc (tpS (40 :: σ)) := by
  show ¬ isOc 40
  unfold isOc
  decide
section Qo
variable {b : Nat → Int32} {n T s : Nat} {M0 : gIt}
theorem q_ne {i L : Nat} {σ W : List Int32} {M : gIt} (h : qS s M0 i L σ W M) (h1 : 1 ≤ σ.length) (h2 : σ.length ≤ 110) : ¬ M 149 34 ≤ 0 := by
  rw [h.2.2.2.1]
  exact nI_nle (by omega) (by omega)
theorem q_opens (st : qSt b n T s M0) {i L : Nat} {σ W : List Int32} {M : gIt} (h : qS s M0 i L σ W M) (hi : i ≤ 200) (hL : L < 6) (hσ : σ.length < 120) : ∃ M1, p_X12_opens M = some M1 ∧ qS s M0 (i + 1) (L + 1) (hrB b n i :: σ) W M1 := by
  have m33 := qS_33 h (L + 1)
  obtain ⟨M1, e1, k1⟩ := q_puts m33 hσ (hrB b n i)
  refine ⟨M1, ?_, k1⟩
  unfold p_X12_opens
  rw [h.2.2.1, if_neg (show ¬ nI L = (6 : Int32) from fun q => by have := (nI_eq (b := 6) (by omega) (by omega)).mp q; omega), gB_v, h.2.2.1, nI_1, gL_b, gL_b, q_here (rB_c st.1 m33.2.2.2.2.2.2.2) hi m33.1, gB_v, e1, gB_v]
theorem q_wrE {i L : Nat} {σ W : List Int32} {M : gIt} (h : qS s M0 i L σ W M) {k : Nat} (hk : 1 ≤ k) (hk2 : k ≤ 5) (hi : i ≤ 200) : ∃ M', p_X12_wrongs M (nI k) (M 149 28) = some M' ∧ qB s M0 i σ k i M' := by
  refine ⟨_, q_wrong0 h.2.1 (nI k), ?_⟩
  rw [h.1]
  exact qS_b h hk hk2 hi
/-- a bad state: one more sign waits -/
theorem qB_puts {i : Nat} {σ : List Int32} {k p : Nat} {M1 : gIt} (b1 : qB s M0 i σ k p M1) (hσ : σ.length < 110) (v c : Int32) : ∃ M2, p_X12_puts (gu2 M1 149 33 v) c = some M2 ∧ qB s M0 (i + 1) (c :: σ) k p M2 := by
  obtain ⟨a1, a2, a3, g3, a5, a6, a7, a8⟩ := b1
  have h28 : gu2 M1 149 33 v 149 28 = nI i := by rw [gu_sl, if_neg (by decide)]; exact a1
  have h34 : gu2 M1 149 33 v 149 34 = nI σ.length := by rw [gu_sl, if_neg (by decide)]; exact g3
  have hv : ∀ j, j ≠ 33 → gu2 M1 149 33 v 149 j = M1 149 j := fun j hj => by rw [gu_sl, if_neg hj]
  have hx : ∀ x, x ≠ 149 → gu2 M1 149 33 v x = M1 x := fun x hx => gu2_ne hx
  generalize gu2 M1 149 33 v = N at h28 h34 hv hx
  unfold p_X12_puts
  rw [h34, gck_t (gin_nI (by omega) (by omega)), gL_b, gu_rd (by decide), h34, nI_1, gL_b, gL_b, gu_sl, if_neg (by decide), gu_rd (by decide), h28, nI_1, gL_b, gL_b, nI_clamp (by omega)]
  refine ⟨_, rfl, by rw [gu_sl, if_pos rfl], ?_, ?_, ?_, ⟨?_, ?_⟩, ?_, ?_, ?_⟩
  · rw [gu_sl, if_neg (by decide), gu_sl, if_neg (by decide), gu_rd (by decide), hv 30 (by decide)]; exact a2
  · rw [gu_sl, if_neg (by decide), gu_sl, if_neg (by decide), gu_rd (by decide), hv 30 (by decide)]; exact a3
  · rw [gu_sl, if_neg (by decide), gu_sl, if_pos rfl, List.length_cons]
  · rw [gu_rd (by decide), gu_rd (by decide), gu_sl, if_pos rfl]
  · exact vS_w (fun k hk => by rw [gu_rd (by decide), gu_rd (by decide), gu_sl, if_neg (by omega), hx 169 (by decide)]) a5
  · intro x q1 q2 q3 q4
    rw [gu2_ne q1, gu2_ne q1, gu2_ne q2, hx x q1]
    exact a6 x q1 q2 q3 q4
  · intro j q1 q2 q3 q4 q5
    rw [gu_sl, if_neg q1, gu_sl, if_neg q4, gu_rd (by decide), hv j q3]
    exact a7 j q1 q2 q3 q4 q5
  · intro k hk
    rw [gu_rd (by decide), gu_rd (by decide), gu_rd (by decide), gu_rd (by decide), gu_rd (by decide), gu_rd (by decide), hx 167 (by decide), hx 168 (by decide)]
    exact a8 k hk
theorem q_opens6 (st : qSt b n T s M0) {i L : Nat} {σ W : List Int32} {M : gIt} (h : qS s M0 i L σ W M) (hL : L = 6) (hi : i ≤ 100) (hσ : σ.length < 110) : ∃ M1, p_X12_opens M = some M1 ∧ qF s M0 5 i M1 := by
  obtain ⟨M1, e1, b1⟩ := q_wrE h (k := 5) (by omega) (by omega) (by omega)
  unfold p_X12_opens
  rw [h.2.2.1, if_pos (show nI L = (6 : Int32) by rw [hL]; rfl), show p_X12_wrongs M 5 (M 149 28) = _ from e1, gB_v, gB_v, gL_b, gL_b]
  generalize M1 149 33 + 1 = v
  have h28 : gu2 M1 149 33 v 149 28 = nI i := by rw [gu_sl, if_neg (by decide)]; exact b1.1
  have fr : cFr s M0 (gu2 M1 149 33 v) := ⟨fun x q1 q2 q3 q4 => by rw [gu2_ne q1]; exact b1.2.2.2.2.2.1 x q1 q2 q3 q4, fun j q1 q2 q3 q4 q5 => by rw [gu_sl, if_neg q3]; exact b1.2.2.2.2.2.2.1 j q1 q2 q3 q4 q5, fun k hk => by rw [gu_rd (by decide), gu_rd (by decide)]; exact b1.2.2.2.2.2.2.2 k hk⟩
  obtain ⟨M2, e2, b2⟩ := qB_puts b1 hσ v (hrB b n i)
  rw [q_here (rB_c st.1 fr) (by omega) h28, gB_v, e2, gB_v]
  exact ⟨M2, rfl, i + 1, _, by omega, by rw [List.length_cons]; omega, b2⟩
/-- a reading of pieces that follows F -/
def qFol (n s : Nat) (M0 : gIt) (L : Nat) (F : Nat → Nat → gOut) : Prop := ∀ i σ W M, i ≤ n → W.length < i → σ.length ≤ i → 1 ≤ σ.length → qS s M0 i L σ W M → (∀ k p, F L i = .inl (k, p) → stD s M0 M 1 k p (n + 2 - i)) ∧ ∀ j ws, F L i = .inr (j, ws) → ∃ M' e, 110 + L ≤ e ∧ stE M M' (j - i) e ∧ qS s M0 j L σ (W ++ ws) M'
theorem q_allL (st : qSt b n T s M0) {L : Nat} {F : Nat → Nat → gOut} (hF : ∀ i, okC n i (2 * L + 2) (F L i)) (hP : qFol n s M0 L F) {σ W : List Int32} (ht : ¬ tpS σ = 38) {i : Nat} {M : gIt} (hW : W.length < i) (hσ : σ.length ≤ i) (hσ1 : 1 ≤ σ.length) : ∀ (m j : Nat) (ws : List Int32), n - j < m → i ≤ j → j ≤ n → ws.length ≤ j - i → (∃ M' π ws', stC M 1 M' 0 (j - i) ∧ ws = ws' ++ π.map opC ∧ (∀ c, c ∈ π → c = 38) ∧ π.length ≤ 1 ∧ qS s M0 j L (π ++ σ) (W ++ ws') M') → (∀ k p, alL b n F L m j ws = .inl (k, p) → stD s M0 M 1 k p (n + 2 - i)) ∧ ∀ j' ws', alL b n F L m j ws = .inr (j', ws') → ¬ pkB b n j' = 38 ∧ ∃ M' π ws'', stC M 1 M' 0 (j' - i) ∧ ws' = ws'' ++ π.map opC ∧ (∀ c, c ∈ π → c = 38) ∧ π.length ≤ 1 ∧ qS s M0 j' L (π ++ σ) (W ++ ws'') M' := by
  intro m
  have hn := st.1.1
  induction m with
  | zero => intro j ws h; omega
  | succ m ih =>
    intro j ws hm hij hj hl hst
    unfold alL
    by_cases c : pkB b n j = 38
    · have hlt := pkB_lt (b := b) (n := n) (i := j) (by rw [c]; decide)
      rw [if_pos c]
      obtain ⟨M1, π, ws', s1, e1, p1, l1, c1⟩ := hst
      have hwl : ws'.length + π.length = ws.length := by rw [e1, List.length_append, List.length_map]
      have hpl : (π ++ σ).length = π.length + σ.length := List.length_append
      obtain ⟨M2, e2, c2⟩ := q_joins st (i := j) (L := L) (σ := σ) 0 (Or.inl rfl) (by rw [if_pos p00]; exact ht) π (W ++ ws') M1 gFu (fun c hc => by rw [if_pos p00]; exact p1 c hc) (by omega) (by rw [List.length_append]; omega) (by unfold gFu; omega) c1
      rw [List.append_assoc, ← e1] at c2
      obtain ⟨M3, e3, c3⟩ := q_puts c2 (by omega) 38
      have hh : hrB b n j = 38 := (hr_iff (by decide)).mpr c
      have st1 : stC M1 0 M3 1 1 := ⟨1, Nat.le_refl _, fun f => by
        rw [cd_n c1.2.1 (q_ne c1 (by omega) (by omega)) (q_here (rB_c st.1 c1.2.2.2.2.2.2.2) (by omega) c1.1) f, hh, if_pos rfl]
        unfold p_X12_joins
        rw [e2, gB_v, e3, gB_v]⟩
      have st2 := stC_tr s1 st1
      have hp := hP (j + 1) (38 :: σ) (W ++ ws) M3 (by omega) (by rw [List.length_append]; omega) (by rw [List.length_cons]; omega) (by rw [List.length_cons]; omega) c3
      cases eF : F L (j + 1) with
      | inl g =>
        refine ⟨fun k p e => ?_, fun j' ws' e => by exact absurd e (by simp)⟩
        rw [Sum.inl.injEq] at e
        have := hp.1 k p (by rw [eF, e])
        exact stD_le (stD_tr st2 this) (by omega)
      | inr g =>
        obtain ⟨M4, e4, he4, s4, c4⟩ := hp.2 g.1 g.2 eF
        obtain ⟨o1, o2, o3, -, -⟩ := hF (j + 1) g.1 g.2 eF
        have s4' := stE_C s4 c4 (by rw [List.length_cons]; omega) (show ¬ (38 : Int32) = 33 by decide) (by omega)
        refine ih g.1 _ (by omega) (by omega) o2 (by rw [List.length_append, List.length_append, List.length_singleton]; omega) ⟨M4, [38], ws ++ g.2, stC_le (stC_tr st2 s4') (by omega), by rfl, fun c hc => by rw [List.mem_singleton] at hc; exact hc, by decide, ?_⟩
        rw [← List.append_assoc]
        exact c4
    · rw [if_neg c]
      refine ⟨fun k p e => by exact absurd e (by simp), fun j' ws' e => ?_⟩
      rw [Sum.inr.injEq, Prod.mk.injEq] at e
      rw [← e.1, ← e.2]
      exact ⟨c, hst⟩
theorem q_all (st : qSt b n T s M0) {L : Nat} {F : Nat → Nat → gOut} (hF : ∀ i, okC n i (2 * L + 2) (F L i)) (hP : qFol n s M0 L F) {σ W : List Int32} (ht : ¬ tpS σ = 38) (ht3 : ¬ tpS σ = 33) {i : Nat} {M : gIt} (hi : i ≤ n) (hW : W.length < i) (hσ : σ.length ≤ i) (hσ1 : 1 ≤ σ.length) (hm : qS s M0 i L σ W M) : (∀ k p, alS b n F L i = .inl (k, p) → stD s M0 M 1 k p (n + 2 - i)) ∧ ∀ j' ws', alS b n F L i = .inr (j', ws') → ¬ pkB b n j' = 38 ∧ ∃ M' π ws'', stC M 1 M' 0 (j' - i) ∧ ws' = ws'' ++ π.map opC ∧ (∀ c, c ∈ π → c = 38) ∧ π.length ≤ 1 ∧ qS s M0 j' L (π ++ σ) (W ++ ws'') M' := by
  have hn := st.1.1
  have hp := hP i σ W M hi hW hσ hσ1 hm
  unfold alS
  cases eF : F L i with
  | inl g =>
    refine ⟨fun k p e => ?_, fun j' ws' e => by exact absurd e (by simp)⟩
    rw [Sum.inl.injEq] at e
    exact hp.1 k p (by rw [eF, e])
  | inr g =>
    obtain ⟨M4, e4, he4, s4, c4⟩ := hp.2 g.1 g.2 eF
    obtain ⟨o1, o2, o3, -, -⟩ := hF i g.1 g.2 eF
    have s4' := stE_C s4 c4 (by omega) ht3 (by omega)
    exact q_allL st hF hP ht hW hσ hσ1 100 g.1 g.2 (by omega) (by omega) o2 (by omega) ⟨M4, [], g.2, s4', by rw [List.map_nil, List.append_nil], fun c hc => absurd hc (by simp), by decide, c4⟩
def qPen (s : Nat) (M0 : gIt) (L : Nat) (σ W : List Int32) (i j : Nat) (ws : List Int32) (M : gIt) : Prop := ∃ M' π ws', stC M 1 M' 0 (j - i) ∧ ws = ws' ++ π.map opC ∧ (∀ c, c ∈ π → isOc c) ∧ π.length ≤ 2 ∧ qS s M0 j L (π ++ σ) (W ++ ws') M'
theorem q_eiL (st : qSt b n T s M0) {L : Nat} {F : Nat → Nat → gOut} (hF : ∀ i, okC n i (2 * L + 2) (F L i)) (hP : qFol n s M0 L F) {σ W : List Int32} (ht : ¬ isOc (tpS σ)) {i : Nat} {M : gIt} (hW : W.length < i) (hσ : σ.length ≤ i) (hσ1 : 1 ≤ σ.length) : ∀ (m j : Nat) (ws : List Int32), n - j < m → i ≤ j → j ≤ n → ws.length ≤ j - i → ¬ pkB b n j = 38 → qPen s M0 L σ W i j ws M → (∀ k p, eiL b n F L m j ws = .inl (k, p) → stD s M0 M 1 k p (n + 2 - i)) ∧ ∀ j' ws', eiL b n F L m j ws = .inr (j', ws') → ¬ pkB b n j' = 38 ∧ ¬ pkB b n j' = 124 ∧ qPen s M0 L σ W i j' ws' M := by
  intro m
  have hn := st.1.1
  induction m with
  | zero => intro j ws h; omega
  | succ m ih =>
    intro j ws hm hij hj hl h38 hst
    unfold eiL
    by_cases c : pkB b n j = 124
    · rw [if_pos c]
      have hlt := pkB_lt (b := b) (n := n) (i := j) (by rw [c]; decide)
      have hh : hrB b n j = 124 := (hr_iff (by decide)).mpr c
      obtain ⟨M1, π, ws', s1, e1, p1, l1, c1⟩ := hst
      have hwl : ws'.length + π.length = ws.length := by rw [e1, List.length_append, List.length_map]
      have hpl : (π ++ σ).length = π.length + σ.length := List.length_append
      obtain ⟨M2, e2, c2⟩ := q_joins st (i := j) (L := L) (σ := σ) 1 (Or.inr rfl) (by rw [if_neg n10]; exact ht) π (W ++ ws') M1 gFu (fun c hc => by rw [if_neg n10]; exact p1 c hc) (by omega) (by rw [List.length_append]; omega) (by unfold gFu; omega) c1
      rw [List.append_assoc, ← e1] at c2
      obtain ⟨M3, e3, c3⟩ := q_puts c2 (by omega) 124
      have st1 : stC M1 0 M3 1 1 := ⟨1, Nat.le_refl _, fun f => by
        rw [cd_n c1.2.1 (q_ne c1 (by omega) (by omega)) (q_here (rB_c st.1 c1.2.2.2.2.2.2.2) (by omega) c1.1) f, hh, if_neg (show ¬ (124 : Int32) = 38 by decide), if_pos rfl]
        unfold p_X12_joins
        rw [e2, gB_v, e3, gB_v]⟩
      have st2 := stC_tr s1 st1
      have hp := q_all st hF hP (σ := 124 :: σ) (W := W ++ ws) (show ¬ (124 : Int32) = 38 by decide) (show ¬ (124 : Int32) = 33 by decide) (i := j + 1) (M := M3) (by omega) (by rw [List.length_append]; omega) (by rw [List.length_cons]; omega) (by rw [List.length_cons]; omega) c3
      cases eF : alS b n F L (j + 1) with
      | inl g =>
        refine ⟨fun k p e => ?_, fun j' ws' e => by exact absurd e (by simp)⟩
        rw [Sum.inl.injEq] at e
        have := hp.1 k p (by rw [eF, e])
        exact stD_le (stD_tr st2 this) (by omega)
      | inr g =>
        obtain ⟨z38, M4, π4, ws4, s4, e4, p4, l4, c4⟩ := hp.2 g.1 g.2 eF
        obtain ⟨o1, o2, o3, -, -⟩ := alS_ok (b := b) hF (j + 1) g.1 g.2 eF
        refine ih g.1 _ (by omega) (by omega) o2 (by rw [List.length_append, List.length_append, List.length_singleton]; omega) z38 ⟨M4, π4 ++ [124], ws ++ ws4, stC_le (stC_tr st2 s4) (by omega), ?_, fun c hc => ?_, by rw [List.length_append, List.length_singleton]; omega, ?_⟩
        · rw [e4, List.map_append, List.map_cons, List.map_nil, ← List.append_assoc, ← List.append_assoc]
          rfl
        · rw [List.mem_append, List.mem_singleton] at hc
          rcases hc with hc | hc
          · exact Or.inl (p4 c hc)
          · rw [hc]; exact Or.inr rfl
        · rw [List.append_assoc, ← List.append_assoc W]
          exact c4
    · rw [if_neg c]
      refine ⟨fun k p e => by exact absurd e (by simp), fun j' ws' e => ?_⟩
      rw [Sum.inr.injEq, Prod.mk.injEq] at e
      rw [← e.1, ← e.2]
      exact ⟨h38, c, hst⟩
theorem q_ei (st : qSt b n T s M0) {L : Nat} {F : Nat → Nat → gOut} (hF : ∀ i, okC n i (2 * L + 2) (F L i)) (hP : qFol n s M0 L F) {σ W : List Int32} (ht : ¬ isOc (tpS σ)) (ht3 : ¬ tpS σ = 33) {i : Nat} {M : gIt} (hi : i ≤ n) (hW : W.length < i) (hσ : σ.length ≤ i) (hσ1 : 1 ≤ σ.length) (hm : qS s M0 i L σ W M) : (∀ k p, eiS b n F L i = .inl (k, p) → stD s M0 M 1 k p (n + 2 - i)) ∧ ∀ j' ws', eiS b n F L i = .inr (j', ws') → ¬ pkB b n j' = 38 ∧ ¬ pkB b n j' = 124 ∧ qPen s M0 L σ W i j' ws' M := by
  have hn := st.1.1
  have hp := q_all st hF hP (σ := σ) (W := W) (fun q => ht (Or.inl q)) ht3 hi hW hσ hσ1 hm
  unfold eiS
  cases eF : alS b n F L i with
  | inl g =>
    refine ⟨fun k p e => ?_, fun j' ws' e => by exact absurd e (by simp)⟩
    rw [Sum.inl.injEq] at e
    exact hp.1 k p (by rw [eF, e])
  | inr g =>
    obtain ⟨z38, M4, π4, ws4, s4, e4, p4, l4, c4⟩ := hp.2 g.1 g.2 eF
    obtain ⟨o1, o2, o3, -, -⟩ := alS_ok (b := b) hF i g.1 g.2 eF
    exact q_eiL st hF hP ht hW hσ hσ1 100 g.1 g.2 (by omega) (by omega) o2 (by omega) z38 ⟨M4, π4, ws4, s4, e4, fun c hc => Or.inl (p4 c hc), by omega, c4⟩
theorem no_oc {j : Nat} (h1 : ¬ pkB b n j = 38) (h2 : ¬ pkB b n j = 124) : ¬ hrB b n j = 38 ∧ ¬ hrB b n j = 124 := ⟨fun z => h1 ((hr_iff (by decide)).mp z), fun z => h2 ((hr_iff (by decide)).mp z)⟩
/-- behind what a bracket holds: it closes, or a fault -/
theorem q_close (st : qSt b n T s M0) {L : Nat} {σ W : List Int32} {i j : Nat} {ws : List Int32} {M : gIt} (hij : i < j) (hj : j ≤ n) (hi : 1 ≤ i) (hW : W.length < i) (hl : ws.length ≤ j - i) (hσ : σ.length + 1 ≤ i) (z38 : ¬ pkB b n j = 38) (z124 : ¬ pkB b n j = 124) (hp : qPen s M0 (L + 1) (40 :: σ) W i j ws M) : (pkB b n j = 41 → ∃ k M', k ≤ j - i + 1 ∧ qS s M0 (j + 1) L σ (W ++ ws) M' ∧ ∀ f, p_X12_condition_16 (f + k) M 1 = if (M' 149 34) ≤ 0 then p_X12_condition_16 f M' 0 else gB (p_X12_ends M') fun r36 => p_X12_condition_16 f r36 0) ∧ (¬ pkB b n j = 41 → stD s M0 M 1 1 j (j - i + 2)) := by
  have hn := st.1.1
  obtain ⟨M4, π, ws4, ⟨k4, hk4, s4⟩, e4, p4, l4, c4⟩ := hp
  have hwl : ws4.length + π.length = ws.length := by rw [e4, List.length_append, List.length_map]
  have hpl : (π ++ 40 :: σ).length = π.length + (σ.length + 1) := by rw [List.length_append, List.length_cons]
  obtain ⟨no1, no2⟩ := no_oc z38 z124
  have hh4 := q_here (rB_c st.1 c4.2.2.2.2.2.2.2) (i := j) (by omega) c4.1
  have hne := q_ne c4 (by omega) (by omega)
  refine ⟨fun c3 => ?_, fun c3 => ?_⟩
  · have h41 : hrB b n j = 41 := (hr_iff (by decide)).mpr c3
    obtain ⟨M5, e5, c5⟩ := q_joins st (i := j) (L := L + 1) (σ := 40 :: σ) 1 (Or.inr rfl) (by rw [if_neg n10]; exact oc40 σ) π (W ++ ws4) M4 gFu (fun c hc => by rw [if_neg n10]; exact p4 c hc) (by omega) (by rw [List.length_append]; omega) (by unfold gFu; omega) c4
    rw [List.append_assoc, ← e4] at c5
    obtain ⟨q1, q2⟩ := qS_pop c5
    have q3 := qS_28 (qS_33 q2 L) (j + 1)
    refine ⟨k4 + 1, _, by omega, q3, fun f => ?_⟩
    rw [show f + (k4 + 1) = f + 1 + k4 by omega, s4, cd_n c4.2.1 hne hh4 f, if_neg no1, if_neg no2, if_pos h41]
    unfold p_X12_joins
    rw [e5, gB_v, q1, gL_b, gL_b, q2.2.2.1, nI_back, gL_b, gL_b, (qS_33 q2 L).1, nI_1, gL_b, gL_b]
  · have h41 : ¬ hrB b n j = 41 := fun q => c3 ((hr_iff (by decide)).mp q)
    have b1 := qS_b c4 (k := 1) (by omega) (by omega) (p := j) (by omega)
    refine ⟨k4 + 2, _, by omega, ⟨j, _, by omega, by omega, b1⟩, fun f => ?_⟩
    rw [show f + (k4 + 2) = f + 1 + 1 + k4 by omega, s4, cd_n c4.2.1 hne hh4 (f + 1), if_neg no1, if_neg no2, if_neg h41, show p_X12_wrongs M4 1 (M4 149 28) = _ from q_wrong0 c4.2.1 (nI 1), gB_v, c4.1, cd_bad b1.2.2.1]
theorem q_piece (st : qSt b n T s M0) : ∀ (fu L : Nat), L ≤ 6 → 7 ≤ fu + L → qFol n s M0 L (piS b n T fu) := by
  intro fu
  have hn := st.1.1
  induction fu with
  | zero => intro L h1 h2; omega
  | succ fu ih =>
    intro L hL hfu i σ W M hi hW hσ hσ1 hm
    have hh := q_here (rB_c st.1 hm.2.2.2.2.2.2.2) (by omega) hm.1
    have hne := q_ne hm hσ1 (by omega)
    unfold piS
    -- a fault of depth
    have deep : (hrB b n i = 33 ∨ hrB b n i = 40) → i < n → ¬ L < 6 → ∀ k p, (.inl (5, i) : gOut) = .inl (k, p) → stD s M0 M 1 k p (n + 2 - i) := fun hc hlt c2 k p e => by
      rw [Sum.inl.injEq, Prod.mk.injEq] at e
      rw [← e.1, ← e.2]
      have hL6 : L = 6 := by omega
      obtain ⟨M2, e2, f2⟩ := q_opens6 st hm hL6 (by omega) (by omega)
      have f2' := f2
      obtain ⟨_, _, _, _, b2⟩ := f2'
      refine ⟨2, M2, by omega, f2, fun f => ?_⟩
      rw [show f + 2 = (f + 1) + 1 from rfl, cd_w hm.2.1 hne hh (f + 1), if_pos hc, e2, gB_v, cd_bad b2.2.2.1]
    by_cases c0 : pkB b n i = 33
    · have hlt := pkB_lt (b := b) (n := n) (i := i) (by rw [c0]; decide)
      have h33 : hrB b n i = 33 := (hr_iff (by decide)).mpr c0
      rw [if_pos c0]
      by_cases c2 : L < 6
      · rw [if_pos c2]
        obtain ⟨M1, e1, k1⟩ := q_opens st hm (by omega) c2 (by omega)
        have st1 : stC M 1 M1 1 1 := ⟨1, Nat.le_refl _, fun f => by
          rw [cd_w hm.2.1 hne hh f, if_pos (Or.inl h33), e1, gB_v]⟩
        rw [h33] at k1
        have hp := ih (L + 1) (by omega) (by omega) (i + 1) (33 :: σ) W M1 (by omega) (by omega) (by rw [List.length_cons]; omega) (by rw [List.length_cons]; omega) k1
        cases eF : piS b n T fu (L + 1) (i + 1) with
        | inl g =>
          refine ⟨fun k p e => ?_, fun j' ws' e => by exact absurd e (by simp)⟩
          rw [Sum.inl.injEq] at e
          have := hp.1 k p (by rw [eF, e])
          exact stD_le (stD_tr st1 this) (by omega)
        | inr g =>
          obtain ⟨M4, e4, he4, s4, c4⟩ := hp.2 g.1 g.2 eF
          obtain ⟨o1, o2, o3, -, -⟩ := piS_ok (b := b) (n := n) (T := T) fu (L + 1) (i + 1) (by omega) g.1 g.2 eF
          refine ⟨fun k p e => by exact absurd e (by simp), fun j' ws' e => ?_⟩
          dsimp only at e
          rw [Sum.inr.injEq, Prod.mk.injEq] at e
          rw [← e.1, ← e.2]
          obtain ⟨M5, e5, c5⟩ := q_not st c4 (by rw [List.length_append]; omega) (by omega) (e4 - 1)
          rw [List.append_assoc] at c5
          obtain ⟨k6, hk6, s6⟩ := stE_tr st1 s4
          refine ⟨M5, e4 - 1, by omega, ⟨k6, by omega, fun f => ?_⟩, c5⟩
          rw [s6 f, show e4 = e4 - 1 + 1 by omega, e5]
          rfl
      · rw [if_neg c2]
        exact ⟨deep (Or.inl h33) hlt c2, fun j' ws' e => by exact absurd e (by simp)⟩
    · rw [if_neg c0]
      have h33 : ¬ hrB b n i = 33 := fun q => c0 ((hr_iff (by decide)).mp q)
      by_cases c1 : pkB b n i = 40
      · have hlt := pkB_lt (b := b) (n := n) (i := i) (by rw [c1]; decide)
        have h40 : hrB b n i = 40 := (hr_iff (by decide)).mpr c1
        rw [if_pos c1]
        by_cases c2 : L < 6
        · rw [if_pos c2]
          obtain ⟨M1, e1, k1⟩ := q_opens st hm (by omega) c2 (by omega)
          have st1 : stC M 1 M1 1 1 := ⟨1, Nat.le_refl _, fun f => by
            rw [cd_w hm.2.1 hne hh f, if_pos (Or.inr h40), e1, gB_v]⟩
          rw [h40] at k1
          have hp := q_ei st (L := L + 1) (F := piS b n T fu) (fun i => piS_ok fu (L + 1) i (by omega)) (ih (L + 1) (by omega) (by omega)) (σ := 40 :: σ) (W := W) (oc40 σ) (show ¬ (40 : Int32) = 33 by decide) (i := i + 1) (M := M1) (by omega) (by omega) (by rw [List.length_cons]; omega) (by rw [List.length_cons]; omega) k1
          cases eF : eiS b n (piS b n T fu) (L + 1) (i + 1) with
          | inl g =>
            refine ⟨fun k p e => ?_, fun j' ws' e => by exact absurd e (by simp)⟩
            rw [Sum.inl.injEq] at e
            have := hp.1 k p (by rw [eF, e])
            exact stD_le (stD_tr st1 this) (by omega)
          | inr g =>
            obtain ⟨z38, z124, pen⟩ := hp.2 g.1 g.2 eF
            obtain ⟨o1, o2, o3, -, -⟩ := eiS_ok (b := b) (F := piS b n T fu) (L := L + 1) (fun i => piS_ok fu (L + 1) i (by omega)) (i + 1) g.1 g.2 eF
            obtain ⟨cl1, cl2⟩ := q_close st o1 o2 (by omega) (by omega) o3 (by omega) z38 z124 pen
            by_cases c3 : pkB b n g.1 = 41
            · refine ⟨fun k p e => ?_, fun j' ws' e => ?_⟩
              · dsimp only at e; rw [if_pos c3] at e; exact absurd e (by simp)
              · dsimp only at e
                rw [if_pos c3, Sum.inr.injEq, Prod.mk.injEq] at e
                rw [← e.1, ← e.2]
                obtain ⟨k5, M5, hk5, c5, s5⟩ := cl1 c3
                obtain ⟨k6, hk6, s6⟩ := st1
                refine ⟨M5, gFu, by unfold gFu; omega, ⟨k5 + k6, by omega, fun f => ?_⟩, c5⟩
                rw [← Nat.add_assoc, s6, s5, if_neg (q_ne c5 hσ1 (by omega))]
                rfl
            · refine ⟨fun k p e => ?_, fun j' ws' e => ?_⟩
              · dsimp only at e
                rw [if_neg c3, Sum.inl.injEq, Prod.mk.injEq] at e
                rw [← e.1, ← e.2]
                exact stD_le (stD_tr st1 (cl2 c3)) (by omega)
              · dsimp only at e; rw [if_neg c3] at e; exact absurd e (by simp)
        · rw [if_neg c2]
          exact ⟨deep (Or.inr h40) hlt c2, fun j' ws' e => by exact absurd e (by simp)⟩
      · rw [if_neg c1]
        have h40 : ¬ hrB b n i = 40 := fun q => c1 ((hr_iff (by decide)).mp q)
        have hno : ¬ (hrB b n i = 33 ∨ hrB b n i = 40) := fun q => by
          rcases q with q | q
          · exact h33 q
          · exact h40 q
        obtain ⟨a1, a2⟩ := q_atom st hm hi (by omega) (by omega)
        refine ⟨fun k p e => ?_, fun j ws e => ?_⟩
        · obtain ⟨M1, e1, i1, σ1, hi1, hs1, b1⟩ := a1 k p e
          obtain ⟨M2, σ2, e2, l2, b2⟩ := qB_ends σ1 M1 gFu hs1 (by unfold gFu; omega) b1
          refine ⟨2, M2, by omega, ⟨i1, σ2, hi1, by omega, b2⟩, fun f => ?_⟩
          rw [show f + 2 = (f + 1) + 1 from rfl, cd_w hm.2.1 hne hh (f + 1), if_neg hno, e1, gB_v]
          unfold p_X12_ends
          rw [e2, gB_v, cd_bad b2.2.2.1]
        · obtain ⟨M1, e1, c1'⟩ := a2 j ws e
          have hlt : i < j := by
            by_cases c3 : pkB b n i = 35
            · rw [if_pos c3] at e
              obtain ⟨q1, -⟩ := hm_ok (b := b) hL j ws e
              omega
            · rw [if_neg c3] at e
              exact (wh_ok hL j ws e).1
          refine ⟨M1, gFu, by unfold gFu; omega, ⟨1, by omega, fun f => ?_⟩, c1'⟩
          rw [cd_w hm.2.1 hne hh f, if_neg hno, e1, gB_v]
          rfl
end Qo
