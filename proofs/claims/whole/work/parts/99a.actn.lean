/-! ===== the reference reads an act: numbers, factors, products, sums ===== -/
theorem op40 (σ : List Int32) : ¬ isOp (tpS (40 :: σ)) := by
  show ¬ isOp 40
  unfold isOp
  decide
section An
variable {b : Nat → Int32} {n : Nat} {M0 : gIt}
theorem wd_val (c : Int32) : p_X12_isValue c = some (if wdS c = 0 then 0 else 1) := by
  unfold p_X12_isValue wdS
  by_cases c1 : c = 97
  · rw [if_neg (by rw [c1]; decide), if_neg (by rw [c1]; decide), if_pos c1, if_pos c1]; rfl
  · by_cases c2 : c = 112
    · rw [if_pos c2, if_neg c1, if_pos c2]; rfl
    · by_cases c3 : c = 116
      · rw [if_neg c2, if_neg (by rw [c3]; decide), if_neg c1, if_neg (by rw [c3]; decide), if_pos c3, if_neg c1, if_neg c2, if_pos c3]; rfl
      · by_cases c4 : c = 118
        · rw [if_neg c2, if_neg (by rw [c4]; decide), if_neg c1, if_pos c4, if_neg c1, if_neg c2, if_neg c3, if_pos c4]; rfl
        · by_cases c5 : c = 119
          · rw [if_neg c2, if_pos c5, if_neg c1, if_neg c2, if_neg c3, if_neg c4, if_pos c5]; rfl
          · rw [if_neg c2, if_neg c5, if_neg c1, if_neg c4, if_neg c3, if_neg c1, if_neg c2, if_neg c3, if_neg c4, if_neg c5]; rfl
theorem wd_x {c : Int32} (h : ¬ wdS c = 0) : (2 : Int32) = gxc (wdS c) ∧ c = gxa (wdS c) := by
  unfold wdS at h ⊢
  by_cases c1 : c = 97
  · rw [if_pos c1, c1]; decide
  · rw [if_neg c1] at h ⊢
    by_cases c2 : c = 112
    · rw [if_pos c2, c2]; decide
    · rw [if_neg c2] at h ⊢
      by_cases c3 : c = 116
      · rw [if_pos c3, c3]; decide
      · rw [if_neg c3] at h ⊢
        by_cases c4 : c = 118
        · rw [if_pos c4, c4]; decide
        · rw [if_neg c4] at h ⊢
          by_cases c5 : c = 119
          · rw [if_pos c5, c5]; decide
          · rw [if_neg c5] at h; exact absurd rfl h
theorem nb_x {v : Nat} (h : v < 1000000) : (1 : Int32) = gxc (nI v) ∧ nI v = gxa (nI v) := by
  unfold gxc gxa
  rw [if_pos (show (0 : Int32) ≤ nI v from nI_le (a := 0) (by omega) (by omega)), if_pos (show (0 : Int32) ≤ nI v from nI_le (a := 0) (by omega) (by omega))]
  exact ⟨rfl, rfl⟩
theorem mF_28 {k p j : Nat} {M : gIt} (h : mF M0 k p M) (hj : j ≤ 200) : mF M0 k p (gu2 M 149 28 (nI j)) := by
  obtain ⟨h1, h2, -, f1, f2, f3⟩ := h
  exact ⟨by rw [gu_sl, if_neg (by decide)]; exact h1, by rw [gu_sl, if_neg (by decide)]; exact h2, ⟨j, hj, by rw [gu_sl, if_pos rfl]⟩, fun x q1 q2 q3 q4 => by rw [gu2_ne q1]; exact f1 x q1 q2 q3 q4, fun j q1 q2 q3 q4 q5 => by rw [gu_sl, if_neg q1]; exact f2 j q1 q2 q3 q4 q5, fun k hk => by rw [gu_rd (by decide), gu_rd (by decide)]; exact f3 k hk⟩
theorem x12_digits7 (s : mSt b n M0) {L i0 : Nat} {σ W : List Int32} (hi0 : i0 ≤ 60) (hW : W.length < 100) : ∀ (m f i v : Nat) (M : gIt), i0 ≤ i → i + m = i0 + 6 → m + 1 < f → i ≤ n → v < 10 ^ (6 - m) → mS M0 i L σ W M → (isDg (pkB b n (dgS b n m i v).1) = true → ∃ M', p_X12_digits_7 (nI i0) f M (nI v) = some M' ∧ mF M0 2 (dgS b n m i v).1 M') ∧ (¬ isDg (pkB b n (dgS b n m i v).1) = true → ∃ M', p_X12_digits_7 (nI i0) f M (nI v) = some M' ∧ mS M0 (dgS b n m i v).1 L σ (W ++ [nI (dgS b n m i v).2]) M') := by
  intro m
  have hn := s.1
  have e6 : nI i0 + 6 = nI (i0 + 6) := nI_add i0 6
  have dig : ∀ {i v : Nat}, isDg (pkB b n i) = true → 10 * nI v + hrB b n i - 48 = nI (10 * v + ((pkB b n i).toNatClampNeg - 48)) := fun {i v} hd => by
    have hlt := isDg_lt hd
    have eh : hrB b n i = pkB b n i := by unfold hrB pkB; rw [if_pos hlt, if_pos hlt]
    unfold isDg at hd
    rw [decide_eq_true_eq] at hd
    obtain ⟨z, -, ez, tz⟩ := i_of (x := pkB b n i) (by omega)
    rw [eh, ez, nI_clamp (by omega)]
    show nI 10 * nI v + nI z - nI 48 = _
    rw [pk_mul, nI_add, pk_sub (by omega)]
    congr 1
    omega
  induction m with
  | zero =>
    intro f i v M h00 hm hf hi hv h
    obtain ⟨f, rfl⟩ : ∃ q, f = q + 1 := ⟨f - 1, by omega⟩
    obtain ⟨f, rfl⟩ : ∃ q, f = q + 1 := ⟨f - 1, by omega⟩
    have hv' : v < 1000000 := by have e : 10 ^ (6 - 0) = 1000000 := by decide
                                 omega
    unfold dgS
    dsimp only
    by_cases c : isDg (pkB b n i) = true
    · refine ⟨fun _ => ?_, fun q => absurd c q⟩
      obtain ⟨M1, e1, f1, g1, -⟩ := x12_wrong h (k := 2) (by omega) (by omega) (by omega)
      conv in p_X12_digits_7 _ _ _ _ => unfold p_X12_digits_7
      rw [x12_good h.2.1, gB_v, if_neg n10, x12_sees s (by omega) h.1 h.2.2.2.2.2.2.2, gB_v, if_pos c, if_neg n10, h.1, if_pos (by rw [e6, show i = i0 + 6 by omega]), ← h.1, show p_X12_wrongs M 2 (M 149 28) = _ from e1, gB_v, gB_v, x12_hereA s (i := i) (by omega) g1 f1.2.2.2, gB_v, gL_b, g1, nI_1, gL_b, gL_b]
      have f2 := mF_28 f1 (j := i + 1) (by omega)
      conv in p_X12_digits_7 _ _ _ _ => unfold p_X12_digits_7
      rw [x12_nogood f2.2.1, gB_v, if_pos p00, x12_saysB f2.2.1, gB_v]
      exact ⟨_, rfl, f2⟩
    · refine ⟨fun q => absurd q c, fun _ => ?_⟩
      obtain ⟨M1, e1, c1⟩ := x12_says h hW (nI v) 1 (nI v) (nb_x hv').1 (nb_x hv').2
      unfold p_X12_digits_7
      rw [x12_good h.2.1, gB_v, if_neg n10, x12_sees s (by omega) h.1 h.2.2.2.2.2.2.2, gB_v, if_neg c, if_pos p00, e1, gB_v]
      exact ⟨M1, rfl, c1⟩
  | succ m ih =>
    intro f i v M h00 hm hf hi hv h
    obtain ⟨f, rfl⟩ : ∃ q, f = q + 1 := ⟨f - 1, by omega⟩
    have hv6 : 10 ^ (6 - (m + 1)) ≤ 10 ^ 6 := Nat.pow_le_pow_right (by omega) (by omega)
    have hv' : v < 1000000 := by
      have e : 10 ^ 6 = 1000000 := by decide
      omega
    unfold dgS
    by_cases c : isDg (pkB b n i) = true
    · have hlt := isDg_lt c
      rw [if_pos c]
      have e : 10 ^ (6 - m) = 10 * 10 ^ (6 - (m + 1)) := by rw [show 6 - m = (6 - (m + 1)) + 1 by omega, Nat.pow_succ, Nat.mul_comm]
      have hd9 : (pkB b n i).toNatClampNeg - 48 ≤ 9 := by
        have hc := c
        unfold isDg at hc
        rw [decide_eq_true_eq] at hc
        obtain ⟨z, -, ez, tz⟩ := i_of (x := pkB b n i) (by omega)
        rw [ez, nI_clamp (by omega)]
        omega
      have nx := ih f (i + 1) (10 * v + ((pkB b n i).toNatClampNeg - 48)) _ (by omega) (by omega) (by omega) (by omega) (by omega) (mS_28 h (i + 1))
      unfold p_X12_digits_7
      rw [x12_good h.2.1, gB_v, if_neg n10, x12_sees s (by omega) h.1 h.2.2.2.2.2.2.2, gB_v, if_pos c, if_neg n10, h.1, if_neg (fun q => by rw [e6, nI_eq (by omega) (by omega)] at q; omega), gB_v, x12_hereA s (by omega) h.1 h.2.2.2.2.2.2.2, gB_v, gL_b, h.1, nI_1, gL_b, gL_b, dig c]
      exact nx
    · rw [if_neg c]
      dsimp only
      refine ⟨fun q => absurd q c, fun _ => ?_⟩
      obtain ⟨M1, e1, c1⟩ := x12_says h hW (nI v) 1 (nI v) (nb_x hv').1 (nb_x hv').2
      unfold p_X12_digits_7
      rw [x12_good h.2.1, gB_v, if_neg n10, x12_sees s (by omega) h.1 h.2.2.2.2.2.2.2, gB_v, if_neg c, if_pos p00, e1, gB_v]
      exact ⟨M1, rfl, c1⟩
/-- a reading of factors that follows F -/
def mFol (b : Nat → Int32) (n : Nat) (M0 : gIt) (L : Nat) (F : Nat → Nat → gOut) : Prop := ∀ i σ W M, i ≤ n → W.length ≤ i → σ.length ≤ i → mS M0 i L σ W M → (∀ k p, F L i = .inl (k, p) → stF M0 M 1 k p (n + 2 - i)) ∧ ∀ j ws, F L i = .inr (j, ws) → ∃ M', stp M 1 M' 0 (j - i) ∧ mS M0 j L σ (W ++ ws) M'
/-- what waits behind a reading -/
def mPen (M0 : gIt) (L : Nat) (σ W : List Int32) (i j : Nat) (ws : List Int32) (M : gIt) (Q : Int32 → Prop) : Prop := ∃ M' π ws', stp M 1 M' 0 (j - i) ∧ ws = ws' ++ π.map opw ∧ (∀ c, c ∈ π → Q c) ∧ π.length ≤ 2 ∧ mS M0 j L (π ++ σ) (W ++ ws') M'
theorem m_prodL (s : mSt b n M0) {L : Nat} {F : Nat → Nat → gOut} (hF : ∀ i, okW n i (2 * L + 2) (F L i)) (hP : mFol b n M0 L F) {σ W : List Int32} (ht : ¬ tpS σ = 42) {i : Nat} {M : gIt} (hW : W.length ≤ i) (hσ : σ.length ≤ i) : ∀ (m j : Nat) (ws : List Int32), n - j < m → i ≤ j → j ≤ n → ws.length ≤ j - i → (∃ M' π ws', stp M 1 M' 0 (j - i) ∧ ws = ws' ++ π.map opw ∧ (∀ c, c ∈ π → c = 42) ∧ π.length ≤ 1 ∧ mS M0 j L (π ++ σ) (W ++ ws') M') → (∀ k p, prL b n F L m j ws = .inl (k, p) → stF M0 M 1 k p (n + 2 - i)) ∧ ∀ j' ws', prL b n F L m j ws = .inr (j', ws') → ¬ pkB b n j' = 42 ∧ ∃ M' π ws'', stp M 1 M' 0 (j' - i) ∧ ws' = ws'' ++ π.map opw ∧ (∀ c, c ∈ π → c = 42) ∧ π.length ≤ 1 ∧ mS M0 j' L (π ++ σ) (W ++ ws'') M' := by
  intro m
  have hn := s.1
  induction m with
  | zero => intro j ws h; omega
  | succ m ih =>
    intro j ws hm hij hj hl hst
    unfold prL
    by_cases c : pkB b n j = 42
    · have hlt := pkB_lt (b := b) (n := n) (i := j) (by rw [c]; decide)
      rw [if_pos c]
      obtain ⟨M1, π, ws', s1, e1, p1, l1, c1⟩ := hst
      have hwl : ws'.length + π.length = ws.length := by rw [e1, List.length_append, List.length_map]
      obtain ⟨M2, e2, c2⟩ := x12_sums (M0 := M0) (i := j) (L := L) (σ := σ) 0 (Or.inl rfl) (by rw [if_pos p00]; exact ht) π (W ++ ws') M1 gFu (fun c hc => by rw [if_pos p00]; exact p1 c hc) (by rw [List.length_append]; omega) (by rw [List.length_append]; omega) (by unfold gFu; omega) c1
      rw [List.append_assoc, ← e1] at c2
      obtain ⟨M3, e3, c3⟩ := x12_puts c2 (by omega) 42
      have hh : hrB b n j = 42 := (hr_iff (by decide)).mpr c
      have st1 : stp M1 0 M3 1 1 := ⟨1, Nat.le_refl _, fun f => by
        rw [ex_n c1.2.1 (x12_hereA s (by omega) c1.1 c1.2.2.2.2.2.2.2) f, hh, if_pos rfl]
        unfold p_X12_sums
        rw [e2, gB_v, e3, gB_v]⟩
      have st2 := stp_tr s1 st1
      have hp := hP (j + 1) (42 :: σ) (W ++ ws) M3 (by omega) (by rw [List.length_append]; omega) (by rw [List.length_cons]; omega) c3
      cases eF : F L (j + 1) with
      | inl g =>
        refine ⟨fun k p e => ?_, fun j' ws' e => by exact absurd e (by simp)⟩
        rw [Sum.inl.injEq] at e
        have := hp.1 k p (by rw [eF, e])
        exact stF_le (stF_tr st2 this) (by omega)
      | inr g =>
        obtain ⟨M4, s4, c4⟩ := hp.2 g.1 g.2 eF
        obtain ⟨o1, o2, o3, -, -⟩ := hF (j + 1) g.1 g.2 eF
        refine ih g.1 _ (by omega) (by omega) o2 (by rw [List.length_append, List.length_append, List.length_singleton]; omega) ⟨M4, [42], ws ++ g.2, stp_le (stp_tr st2 s4) (by omega), by rfl, fun c hc => by rw [List.mem_singleton] at hc; exact hc, by decide, ?_⟩
        rw [← List.append_assoc]
        exact c4
    · rw [if_neg c]
      refine ⟨fun k p e => by exact absurd e (by simp), fun j' ws' e => ?_⟩
      rw [Sum.inr.injEq, Prod.mk.injEq] at e
      rw [← e.1, ← e.2]
      exact ⟨c, hst⟩
theorem m_prod (s : mSt b n M0) {L : Nat} {F : Nat → Nat → gOut} (hF : ∀ i, okW n i (2 * L + 2) (F L i)) (hP : mFol b n M0 L F) {σ W : List Int32} (ht : ¬ tpS σ = 42) {i : Nat} {M : gIt} (hi : i ≤ n) (hW : W.length ≤ i) (hσ : σ.length ≤ i) (hm : mS M0 i L σ W M) : (∀ k p, prS b n F L i = .inl (k, p) → stF M0 M 1 k p (n + 2 - i)) ∧ ∀ j' ws', prS b n F L i = .inr (j', ws') → ¬ pkB b n j' = 42 ∧ ∃ M' π ws'', stp M 1 M' 0 (j' - i) ∧ ws' = ws'' ++ π.map opw ∧ (∀ c, c ∈ π → c = 42) ∧ π.length ≤ 1 ∧ mS M0 j' L (π ++ σ) (W ++ ws'') M' := by
  have hn := s.1
  have hp := hP i σ W M hi hW hσ hm
  unfold prS
  cases eF : F L i with
  | inl g =>
    refine ⟨fun k p e => ?_, fun j' ws' e => by exact absurd e (by simp)⟩
    rw [Sum.inl.injEq] at e
    exact hp.1 k p (by rw [eF, e])
  | inr g =>
    obtain ⟨M4, s4, c4⟩ := hp.2 g.1 g.2 eF
    obtain ⟨o1, o2, o3, -, -⟩ := hF i g.1 g.2 eF
    exact m_prodL s hF hP ht hW hσ 100 g.1 g.2 (by omega) (by omega) o2 (by omega) ⟨M4, [], g.2, s4, by rw [List.map_nil, List.append_nil], fun c hc => absurd hc (by simp), by decide, c4⟩
theorem m_sumL (s : mSt b n M0) {L : Nat} {F : Nat → Nat → gOut} (hF : ∀ i, okW n i (2 * L + 2) (F L i)) (hP : mFol b n M0 L F) {σ W : List Int32} (ht : ¬ isOp (tpS σ)) {i : Nat} {M : gIt} (hW : W.length ≤ i) (hσ : σ.length ≤ i) : ∀ (m j : Nat) (ws : List Int32), n - j < m → i ≤ j → j ≤ n → ws.length ≤ j - i → ¬ pkB b n j = 42 → mPen M0 L σ W i j ws M isOp → (∀ k p, suL b n F L m j ws = .inl (k, p) → stF M0 M 1 k p (n + 2 - i)) ∧ ∀ j' ws', suL b n F L m j ws = .inr (j', ws') → ¬ pkB b n j' = 42 ∧ smW (pkB b n j') = 0 ∧ mPen M0 L σ W i j' ws' M isOp := by
  intro m
  have hn := s.1
  induction m with
  | zero => intro j ws h; omega
  | succ m ih =>
    intro j ws hm hij hj hl h42 hst
    unfold suL
    by_cases c : smW (pkB b n j) = 0
    · rw [if_pos c]
      refine ⟨fun k p e => by exact absurd e (by simp), fun j' ws' e => ?_⟩
      rw [Sum.inr.injEq, Prod.mk.injEq] at e
      rw [← e.1, ← e.2]
      exact ⟨h42, c, hst⟩
    · rw [if_neg c]
      have hc := smW_c c
      have hpos : 0 < (pkB b n j).toInt := by rcases hc with ⟨q, -⟩ | ⟨q, -⟩ <;> rw [q] <;> decide
      have hlt := pkB_lt (b := b) (n := n) (i := j) (fun q => by rw [q] at hpos; exact absurd hpos (by decide))
      have hh : hrB b n j = pkB b n j := (hr_iff hpos).mpr rfl
      have hop : pkB b n j = 43 ∨ pkB b n j = 45 := by
        rcases hc with ⟨q, -⟩ | ⟨q, -⟩
        · exact Or.inl q
        · exact Or.inr q
      obtain ⟨M1, π, ws', s1, e1, p1, l1, c1⟩ := hst
      have hwl : ws'.length + π.length = ws.length := by rw [e1, List.length_append, List.length_map]
      obtain ⟨M2, e2, c2⟩ := x12_sums (M0 := M0) (i := j) (L := L) (σ := σ) 1 (Or.inr rfl) (by rw [if_neg n10]; exact ht) π (W ++ ws') M1 gFu (fun c hc => by rw [if_neg n10]; exact p1 c hc) (by rw [List.length_append]; omega) (by rw [List.length_append]; omega) (by unfold gFu; omega) c1
      rw [List.append_assoc, ← e1] at c2
      obtain ⟨M3, e3, c3⟩ := x12_puts c2 (by omega) (pkB b n j)
      have st1 : stp M1 0 M3 1 1 := ⟨1, Nat.le_refl _, fun f => by
        rw [ex_n c1.2.1 (x12_hereA s (by omega) c1.1 c1.2.2.2.2.2.2.2) f, hh, if_neg h42, if_pos hop]
        unfold p_X12_sums
        rw [e2, gB_v, e3, gB_v]⟩
      have st2 := stp_tr s1 st1
      have ew : opw (pkB b n j) = smW (pkB b n j) := by
        rcases hc with ⟨q, z⟩ | ⟨q, z⟩ <;> rw [z, q] <;> decide
      have hp := m_prod s hF hP (σ := pkB b n j :: σ) (W := W ++ ws) (show ¬ pkB b n j = 42 from h42) (i := j + 1) (M := M3) (by omega) (by rw [List.length_append]; omega) (by rw [List.length_cons]; omega) c3
      cases eF : prS b n F L (j + 1) with
      | inl g =>
        refine ⟨fun k p e => ?_, fun j' ws' e => by exact absurd e (by simp)⟩
        rw [Sum.inl.injEq] at e
        have := hp.1 k p (by rw [eF, e])
        exact stF_le (stF_tr st2 this) (by omega)
      | inr g =>
        obtain ⟨z42, M4, π4, ws4, s4, e4, p4, l4, c4⟩ := hp.2 g.1 g.2 eF
        obtain ⟨o1, o2, o3, -, -⟩ := prS_ok (b := b) hF (j + 1) g.1 g.2 eF
        refine ih g.1 _ (by omega) (by omega) o2 (by rw [List.length_append, List.length_append, List.length_singleton]; omega) z42 ⟨M4, π4 ++ [pkB b n j], ws ++ ws4, stp_le (stp_tr st2 s4) (by omega), ?_, fun c hc => ?_, by rw [List.length_append, List.length_singleton]; omega, ?_⟩
        · rw [e4, List.map_append, List.map_cons, List.map_nil, ew, ← List.append_assoc, ← List.append_assoc]
        · rw [List.mem_append, List.mem_singleton] at hc
          rcases hc with hc | hc
          · exact Or.inl (p4 c hc)
          · rw [hc]; exact Or.inr hop
        · rw [List.append_assoc, ← List.append_assoc W]
          exact c4
theorem m_sum (s : mSt b n M0) {L : Nat} {F : Nat → Nat → gOut} (hF : ∀ i, okW n i (2 * L + 2) (F L i)) (hP : mFol b n M0 L F) {σ W : List Int32} (ht : ¬ isOp (tpS σ)) {i : Nat} {M : gIt} (hi : i ≤ n) (hW : W.length ≤ i) (hσ : σ.length ≤ i) (hm : mS M0 i L σ W M) : (∀ k p, suS b n F L i = .inl (k, p) → stF M0 M 1 k p (n + 2 - i)) ∧ ∀ j' ws', suS b n F L i = .inr (j', ws') → ¬ pkB b n j' = 42 ∧ smW (pkB b n j') = 0 ∧ mPen M0 L σ W i j' ws' M isOp := by
  have hn := s.1
  have hp := m_prod s hF hP (σ := σ) (W := W) (fun q => ht (Or.inl q)) hi hW hσ hm
  unfold suS
  cases eF : prS b n F L i with
  | inl g =>
    refine ⟨fun k p e => ?_, fun j' ws' e => by exact absurd e (by simp)⟩
    rw [Sum.inl.injEq] at e
    exact hp.1 k p (by rw [eF, e])
  | inr g =>
    obtain ⟨z42, M4, π4, ws4, s4, e4, p4, l4, c4⟩ := hp.2 g.1 g.2 eF
    obtain ⟨o1, o2, o3, -, -⟩ := prS_ok (b := b) hF i g.1 g.2 eF
    exact m_sumL s hF hP ht hW hσ 100 g.1 g.2 (by omega) (by omega) o2 (by omega) z42 ⟨M4, π4, ws4, s4, e4, fun c hc => Or.inl (p4 c hc), by omega, c4⟩
/-- all that waits is said: where no sign follows -/
theorem m_end {L : Nat} {σ W : List Int32} {j : Nat} {ws' π : List Int32} {M : gIt} (ht : ¬ isOp (tpS σ)) (hπ : ∀ c, c ∈ π → isOp c) (hl : (π ++ σ).length ≤ 100) (hl2 : (W ++ ws').length + π.length ≤ 100) (hm : mS M0 j L (π ++ σ) (W ++ ws') M) : ∃ M', p_X12_sums M 1 = some M' ∧ mS M0 j L σ (W ++ (ws' ++ π.map opw)) M' := by
  have := x12_sums (M0 := M0) (i := j) (L := L) (σ := σ) 1 (Or.inr rfl) (by rw [if_neg n10]; exact ht) π (W ++ ws') M gFu (fun c hc => by rw [if_neg n10]; exact hπ c hc) hl hl2 (by rw [List.length_append] at hl; unfold gFu; omega) hm
  rw [List.append_assoc] at this
  exact this
theorem no_op {b : Nat → Int32} {n j : Nat} (h1 : ¬ pkB b n j = 42) (h2 : smW (pkB b n j) = 0) : ¬ hrB b n j = 42 ∧ ¬ (hrB b n j = 43 ∨ hrB b n j = 45) := by
  have q : ∀ c : Int32, 0 < c.toInt → ¬ smW c = 0 → ¬ hrB b n j = c := fun c hc hw z => by rw [hr_iff hc] at z; rw [z] at h2; exact hw h2
  refine ⟨fun z => h1 ((hr_iff (by decide)).mp z), fun z => ?_⟩
  rcases z with z | z
  · exact q 43 (by decide) (by decide) z
  · exact q 45 (by decide) (by decide) z
theorem m_factor (s : mSt b n M0) : ∀ (fu L : Nat), L ≤ 6 → 7 ≤ fu + L → mFol b n M0 L (faS b n fu) := by
  intro fu
  have hn := s.1
  induction fu with
  | zero => intro L h1 h2; omega
  | succ fu ih =>
    intro L hL hfu i σ W M hi hW hσ hm
    have hh := x12_hereA s (by omega) hm.1 hm.2.2.2.2.2.2.2
    unfold faS
    by_cases c1 : pkB b n i = 40
    · have hlt := pkB_lt (b := b) (n := n) (i := i) (by rw [c1]; decide)
      have h40 : hrB b n i = 40 := (hr_iff (by decide)).mpr c1
      rw [if_pos c1]
      by_cases c2 : L < 6
      · rw [if_pos c2]
        -- it opens
        have m33 := mS_33 hm (L + 1)
        obtain ⟨M1, e1, k1⟩ := x12_puts m33 (by omega) 40
        have st1 : stp M 1 M1 1 1 := ⟨1, Nat.le_refl _, fun f => by
          rw [ex_w hm.2.1 hh f, h40, if_pos rfl]
          unfold p_X12_opens
          rw [hm.2.2.1, if_neg (show ¬ nI L = (6 : Int32) from fun q => by have := (nI_eq (b := 6) (by omega) (by omega)).mp q; omega), gB_v, hm.2.2.1, nI_1, gL_b, gL_b, x12_hereA s (by omega) m33.1 m33.2.2.2.2.2.2.2, gB_v, h40, e1, gB_v, gB_v]⟩
        have hp := m_sum s (L := L + 1) (F := faS b n fu) (fun i => faS_ok fu (L + 1) i (by omega)) (ih (L + 1) (by omega) (by omega)) (σ := 40 :: σ) (W := W) (op40 σ) (i := i + 1) (M := M1) (by omega) (by omega) (by rw [List.length_cons]; omega) k1
        cases eF : suS b n (faS b n fu) (L + 1) (i + 1) with
        | inl g =>
          refine ⟨fun k p e => ?_, fun j' ws' e => by exact absurd e (by simp)⟩
          rw [Sum.inl.injEq] at e
          have := hp.1 k p (by rw [eF, e])
          exact stF_le (stF_tr st1 this) (by omega)
        | inr g =>
          obtain ⟨z42, zsm, M4, π, ws4, s4, e4, p4, l4, c4⟩ := hp.2 g.1 g.2 eF
          obtain ⟨o1, o2, o3, -, -⟩ := suS_ok (b := b) (F := faS b n fu) (L := L + 1) (fun i => faS_ok fu (L + 1) i (by omega)) (i + 1) g.1 g.2 eF
          have hwl : ws4.length + π.length = g.2.length := by rw [e4, List.length_append, List.length_map]
          obtain ⟨M5, e5, c5⟩ := m_end (M0 := M0) (L := L + 1) (σ := 40 :: σ) (W := W) (j := g.1) (ws' := ws4) (π := π) (M := M4) (op40 σ) p4 (by rw [List.length_append, List.length_cons]; omega) (by rw [List.length_append]; omega) c4
          rw [← e4] at c5
          obtain ⟨no1, no2⟩ := no_op z42 zsm
          have hh4 := x12_hereA s (i := g.1) (by omega) c4.1 c4.2.2.2.2.2.2.2
          have n33 : ¬ M4 149 33 ≤ 0 := by rw [c4.2.2.1]; exact nI_nle (by omega) (by omega)
          by_cases c3 : pkB b n g.1 = 41
          · have h41 : hrB b n g.1 = 41 := (hr_iff (by decide)).mpr c3
            refine ⟨fun k p e => ?_, fun j' ws' e => ?_⟩
            · dsimp only at e; rw [if_pos c3] at e; exact absurd e (by simp)
            · dsimp only at e
              rw [if_pos c3, Sum.inr.injEq, Prod.mk.injEq] at e
              rw [← e.1, ← e.2]
              obtain ⟨q1, q2⟩ := mS_pop c5
              have q3 := mS_28 (mS_33 q2 L) (g.1 + 1)
              refine ⟨_, stp_le (stp_tr (stp_tr st1 s4) ⟨1, Nat.le_refl 1, fun f => ?_⟩) (show 1 + (g.1 - (i + 1)) + 1 ≤ g.1 + 1 - i by omega), q3⟩
              rw [ex_n c4.2.1 hh4 f, if_neg no1, if_neg no2, if_pos ⟨h41, n33⟩, e5, gB_v, q1, gL_b, gL_b, q2.2.2.1, nI_back, gL_b, gL_b, (mS_33 q2 L).1, nI_1, gL_b, gL_b]
          · have h41 : ¬ hrB b n g.1 = 41 := fun q => c3 ((hr_iff (by decide)).mp q)
            refine ⟨fun k p e => ?_, fun j' ws' e => ?_⟩
            · dsimp only at e
              rw [if_neg c3, Sum.inl.injEq, Prod.mk.injEq] at e
              rw [← e.1, ← e.2]
              obtain ⟨M6, e6, f6, -⟩ := x12_wrong c5 (k := 1) (by omega) (by omega) (by omega)
              have st5 : stF M0 M4 0 1 g.1 2 := ⟨2, M6, Nat.le_refl _, f6, fun f => by
                rw [show f + 2 = (f + 1) + 1 from rfl, ex_n c4.2.1 hh4 (f + 1), if_neg no1, if_neg no2, if_neg (fun q => h41 q.1), e5, gB_v, c5.2.2.1, if_neg (nI_nle (by omega) (by omega)), show p_X12_wrongs M5 1 (M5 149 28) = _ from e6, gB_v, ex_bad f6.2.1]⟩
              exact stF_le (stF_tr (stp_tr st1 s4) st5) (by omega)
            · dsimp only at e; rw [if_neg c3] at e; exact absurd e (by simp)
      · rw [if_neg c2]
        have hL6 : L = 6 := by omega
        refine ⟨fun k p e => ?_, fun j' ws' e => by exact absurd e (by simp)⟩
        rw [Sum.inl.injEq, Prod.mk.injEq] at e
        rw [← e.1, ← e.2]
        obtain ⟨M1, e1, f1, g1, g2, g3⟩ := x12_wrong hm (k := 5) (by omega) (by omega) (by omega)
        obtain ⟨a1, a2, -, a4, a5, a6⟩ := id f1
        -- open and stack grow once more
        have fin : ∃ M2, p_X12_opens M = some M2 ∧ mF M0 5 i M2 := by
          unfold p_X12_opens
          rw [hm.2.2.1, if_pos (show nI L = (6 : Int32) by rw [hL6]; rfl), show p_X12_wrongs M 5 (M 149 28) = _ from e1, gB_v, gB_v, g2, nI_1, gL_b, gL_b]
          have h28 : gu2 M1 149 33 (nI (L + 1)) 149 28 = nI i := by rw [gu_sl, if_neg (by decide)]; exact g1
          have fr : mFr M0 (gu2 M1 149 33 (nI (L + 1))) := ⟨fun x q1 q2 q3 q4 => by rw [gu2_ne q1]; exact a4 x q1 q2 q3 q4, fun j q1 q2 q3 q4 q5 => by rw [gu_sl, if_neg q3]; exact a5 j q1 q2 q3 q4 q5, fun k hk => by rw [gu_rd (by decide), gu_rd (by decide)]; exact a6 k hk⟩
          rw [x12_hereA s (by omega) h28 fr, gB_v]
          unfold p_X12_puts
          rw [show gu2 M1 149 33 (nI (L + 1)) 149 34 = nI σ.length by rw [gu_sl, if_neg (by decide)]; exact g3, gck_t (gin_nI (by omega) (by omega)), gL_b, gL_b, gL_b, gL_b, gL_b, gB_v]
          refine ⟨_, rfl, ?_, ?_, ?_, ?_⟩
          · rw [gu_sl, if_neg (by decide), gu_sl, if_neg (by decide), gu_rd (by decide), gu_sl, if_neg (by decide)]; exact a1
          · rw [gu_sl, if_neg (by decide), gu_sl, if_neg (by decide), gu_rd (by decide), gu_sl, if_neg (by decide)]; exact a2
          · refine ⟨i + 1, by omega, ?_⟩
            rw [gu_sl, if_pos rfl, gu_sl, if_neg (by decide), gu_rd (by decide), h28, nI_1]
          · exact ⟨fun x q1 q2 q3 q4 => by rw [gu2_ne q1, gu2_ne q1, gu2_ne q2]; exact fr.1 x q1 q2 q3 q4, fun j q1 q2 q3 q4 q5 => by rw [gu_sl, if_neg q1, gu_sl, if_neg q4, gu_rd (by decide)]; exact fr.2.1 j q1 q2 q3 q4 q5, fun k hk => by rw [gu_rd (by decide), gu_rd (by decide), gu_rd (by decide), gu_rd (by decide), gu_rd (by decide), gu_rd (by decide)]; exact fr.2.2 k hk⟩
        obtain ⟨M2, e2, f2⟩ := fin
        refine ⟨2, M2, by omega, f2, fun f => ?_⟩
        rw [show f + 2 = (f + 1) + 1 from rfl, ex_w hm.2.1 hh (f + 1), h40, if_pos rfl, e2, gB_v, ex_bad f2.2.1]
    · have h40 : ¬ hrB b n i = 40 := fun q => c1 ((hr_iff (by decide)).mp q)
      have hs := x12_sees s (i := i) (by omega) hm.1 hm.2.2.2.2.2.2.2
      rw [if_neg c1]
      by_cases c2 : isDg (pkB b n i) = true
      · have hlt := isDg_lt c2
        rw [if_pos c2] at hs ⊢
        obtain ⟨d1, d2⟩ := x12_digits7 s (L := L) (i0 := i) (σ := σ) (W := W) (by omega) (by omega) 6 gFu i 0 M (Nat.le_refl _) (by omega) (by unfold gFu; omega) hi (by decide) hm
        unfold nbS
        by_cases c3 : isDg (pkB b n (dgS b n 6 i 0).1) = true
        · rw [if_pos c3]
          obtain ⟨M1, e1, f1⟩ := d1 c3
          refine ⟨fun k p e => ?_, fun j' ws' e => by exact absurd e (by simp)⟩
          rw [Sum.inl.injEq, Prod.mk.injEq] at e
          rw [← e.1, ← e.2]
          refine ⟨2, M1, by omega, f1, fun f => ?_⟩
          rw [show f + 2 = (f + 1) + 1 from rfl, ex_w hm.2.1 hh (f + 1), if_neg h40, hs, gB_v, if_neg n10]
          unfold p_X12_digits
          rw [gL_b, hm.1, show p_X12_digits_7 (nI i) gFu M 0 = _ from e1, gB_v, ex_bad f1.2.1]
        · rw [if_neg c3]
          obtain ⟨M1, e1, f1⟩ := d2 c3
          obtain ⟨l1, l2, -, -⟩ := dgS_le (b := b) (n := n) 6 i 0
          have hne : ¬ (dgS b n 6 i 0).1 = i := fun q => by rw [q] at c3; exact c3 c2
          refine ⟨fun k p e => by exact absurd e (by simp), fun j' ws' e => ?_⟩
          rw [Sum.inr.injEq, Prod.mk.injEq] at e
          rw [← e.1, ← e.2]
          refine ⟨M1, ⟨1, by omega, fun f => ?_⟩, f1⟩
          rw [ex_w hm.2.1 hh f, if_neg h40, hs, gB_v, if_neg n10]
          unfold p_X12_digits
          rw [gL_b, hm.1, show p_X12_digits_7 (nI i) gFu M 0 = _ from e1, gB_v]
      · rw [if_neg c2] at hs ⊢
        have hv := wd_val (hrB b n i)
        rw [hr_wd] at hv
        by_cases c3 : wdS (pkB b n i) = 0
        · rw [if_pos c3] at hv ⊢
          refine ⟨fun k p e => ?_, fun j' ws' e => by exact absurd e (by simp)⟩
          rw [Sum.inl.injEq, Prod.mk.injEq] at e
          rw [← e.1, ← e.2]
          obtain ⟨M1, e1, f1, g1, -⟩ := x12_wrong hm (k := 1) (by omega) (by omega) (by omega)
          have f2 := mF_28 f1 (j := i + 1) (by omega)
          refine ⟨2, _, by omega, f2, fun f => ?_⟩
          rw [show f + 2 = (f + 1) + 1 from rfl, ex_w hm.2.1 hh (f + 1), if_neg h40, hs, gB_v, if_pos p00, hv, gB_v, if_pos p00, show p_X12_wrongs M 1 (M 149 28) = _ from e1, gB_v, gB_v, x12_saysB f1.2.1, gB_v, g1, nI_1, gL_b, gL_b, ex_bad f2.2.1]
        · rw [if_neg c3] at hv ⊢
          obtain ⟨z1, z2, z6, z7, z8, z0⟩ := wdS_r c3
          have hlt := pkB_lt (b := b) (n := n) (i := i) (fun q => by rw [q] at z0; exact absurd z0 (by decide))
          have ehp : hrB b n i = pkB b n i := (hr_iff z0).mpr rfl
          refine ⟨fun k p e => by exact absurd e (by simp), fun j' ws' e => ?_⟩
          rw [Sum.inr.injEq, Prod.mk.injEq] at e
          rw [← e.1, ← e.2]
          obtain ⟨M1, e1, k1⟩ := x12_says hm (by omega) (wdS (pkB b n i)) 2 (pkB b n i) (wd_x c3).1 (wd_x c3).2
          refine ⟨_, ⟨1, by omega, fun f => ?_⟩, mS_28 k1 (i + 1)⟩
          rw [ex_w hm.2.1 hh f, if_neg h40, hs, gB_v, if_pos p00, hv, gB_v, if_neg n10, gB_v, ehp, e1, gB_v, k1.1, nI_1, gL_b, gL_b]
end An
