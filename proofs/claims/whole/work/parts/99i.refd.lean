/-! ===== the reference reads a settlement's conditions: atoms, pieces, the loop ===== -/
theorem gm_who : ∀ o, o < 16 → (gmc (nI (16 + o)) = 2 ∧ gma (nI (16 + o)) = nI o) ∧ gmc (nI o) = 1 ∧ gma (nI o) = nI o := by decide
theorem gm_cnt : ∀ v, v < 100 → (gmc (nI (100 + v)) = 3 ∧ gma (nI (100 + v)) = nI v) ∧ (gmc (nI (200 + v)) = 4 ∧ gma (nI (200 + v)) = nI v) ∧ gmc (nI (300 + v)) = 5 ∧ gma (nI (300 + v)) = nI v := by decide +kernel
section Qn
variable {b : Nat → Int32} {n T s : Nat} {M0 : gIt}
theorem cn_emit (st : qSt b n T s M0) {i L : Nat} {σ W : List Int32} {M : gIt} (h : qS s M0 i L σ W M) (hW : W.length < 100) {c : Int32} (hc : ¬ kdS c = 0) {v : Nat} (hv : v < 100) : ∃ M', (if c = (60 : Int32) then gB (p_X12_emit M (3 : Int32) (nI v)) fun r21 => some r21 else if c = (62 : Int32) then gB (p_X12_emit M (4 : Int32) (nI v)) fun r19 => some r19 else gB (p_X12_emit M (5 : Int32) (nI v)) fun r17 => some r17) = some M' ∧ qS s M0 i L σ (W ++ [nI (kdS c + v)]) M' := by
  obtain ⟨g1, g2, g3⟩ := gm_cnt v hv
  rcases kdS_r hc with ⟨q, z⟩ | ⟨q, z⟩ | ⟨q, z⟩
  · obtain ⟨M', e', c'⟩ := q_emit st h hW (nI (100 + v)) 3 (nI v) g1.1.symm g1.2.symm
    rw [if_pos q, e', gB_v, z]
    exact ⟨M', rfl, c'⟩
  · obtain ⟨M', e', c'⟩ := q_emit st h hW (nI (200 + v)) 4 (nI v) g2.1.symm g2.2.symm
    rw [if_neg (by rw [q]; decide), if_pos q, e', gB_v, z]
    exact ⟨M', rfl, c'⟩
  · obtain ⟨M', e', c'⟩ := q_emit st h hW (nI (300 + v)) 5 (nI v) g3.1.symm g3.2.symm
    rw [if_neg (by rw [q]; decide), if_neg (by rw [q]; decide), e', gB_v, z]
    exact ⟨M', rfl, c'⟩
theorem cn_bad {M : gIt} (h : (M 149 30).toInt < 0) (c x2 : Int32) (f : Nat) : p_X12_counts_72 c (f + 1) M x2 0 = some M := by
  unfold p_X12_counts_72
  rw [if_neg (by decide), x12_nogood h, gB_v, if_pos p00, q_emitB h, q_emitB h, q_emitB h, gB_v]
  by_cases q : c = 60
  · rw [if_pos q]
  · rw [if_neg q]
    by_cases q2 : c = 62
    · rw [if_pos q2]
    · rw [if_neg q2]
theorem q_dig {i v : Nat} (hd : isDg (pkB b n i) = true) : 10 * nI v + hrB b n i - 48 = nI (10 * v + ((pkB b n i).toNatClampNeg - 48)) := by
  have hlt := isDg_lt hd
  have eh : hrB b n i = pkB b n i := by unfold hrB pkB; rw [if_pos hlt, if_pos hlt]
  unfold isDg at hd
  rw [decide_eq_true_eq] at hd
  obtain ⟨z, -, ez, tz⟩ := i_of (x := pkB b n i) (by omega)
  rw [eh, ez, nI_clamp (by omega)]
  show nI 10 * nI v + nI z - nI 48 = _
  rw [pk_mul, nI_add, pk_sub (by omega)]
  congr 1
  omega
theorem d9 {i : Nat} (hd : isDg (pkB b n i) = true) : (pkB b n i).toNatClampNeg - 48 ≤ 9 := by
  unfold isDg at hd
  rw [decide_eq_true_eq] at hd
  obtain ⟨z, -, ez, tz⟩ := i_of (x := pkB b n i) (by omega)
  rw [ez, nI_clamp (by omega)]
  omega
theorem q_counts (st : qSt b n T s M0) {i L : Nat} {σ W : List Int32} {M : gIt} (h : qS s M0 i L σ W M) (hi : i < n) (hW : W.length < 100) (hσ : σ.length ≤ 110) : (∀ k p, hmS b n (i + 1) = .inl (k, p) → ∃ M', p_X12_counts M = some M' ∧ qF s M0 k p M') ∧ ∀ j ws, hmS b n (i + 1) = .inr (j, ws) → ∃ M', p_X12_counts M = some M' ∧ qS s M0 j L σ (W ++ ws) M' := by
  have hn := st.1.1
  have h1 := qS_28 h (i + 1)
  have r1 := rB_c st.1 h1.2.2.2.2.2.2.2
  unfold p_X12_counts hmS
  rw [h.1, nI_1, gL_b, gL_b, q_here r1 (by omega) h1.1, gB_v]
  by_cases c1 : kdS (pkB b n (i + 1)) = 0
  · have ne : ∀ c : Int32, 0 < c.toInt → ¬ kdS c = 0 → ¬ hrB b n (i + 1) = c := fun c hc hk q => by
      rw [hr_iff hc] at q
      rw [q] at c1
      exact hk c1
    rw [if_pos c1, if_neg (ne 60 (by decide) (by decide)), if_neg (ne 62 (by decide) (by decide)), if_neg (ne 61 (by decide) (by decide)), show p_X12_wrongs (gu2 M 149 28 (nI (i + 1))) 1 (gu2 M 149 28 (nI (i + 1)) 149 28) = _ from q_wrong0 h1.2.1 (nI 1), gB_v, gB_v, h1.1]
    refine ⟨fun k p e => ?_, fun j ws e => by exact absurd e (by simp)⟩
    rw [Sum.inl.injEq, Prod.mk.injEq] at e
    rw [← e.1, ← e.2]
    have b2 := qS_b h1 (k := 1) (by omega) (by omega) (p := i + 1) (by omega)
    have b3 := qB_28 b2 (i + 1 + 1)
    rw [b2.1, nI_1, gL_b, gL_b, q_sees (rB_c st.1 b3.2.2.2.2.2) (by omega) b3.1, gB_v, show gFu = 999999 + 1 from rfl]
    by_cases c2 : isDg (pkB b n (i + 1 + 1)) = true
    · rw [if_pos c2, if_neg n10]
      refine ⟨_, cn_bad b3.2.2.1 _ _ _, i + 1 + 1, σ, by omega, by omega, b3⟩
    · have b4 := qB_30 b3
      rw [if_neg c2, if_pos p00, q_wrongB b3.2.2.1, gB_v]
      refine ⟨_, cn_bad b4.2.2.1 _ _ _, i + 1 + 1, σ, by omega, by omega, b4⟩
  · rw [if_neg c1]
    have hk := kdS_r c1
    have hk3 : kdS (pkB b n (i + 1)) ≤ 300 := by rcases hk with ⟨-, z⟩ | ⟨-, z⟩ | ⟨-, z⟩ <;> omega
    have hpos : 0 < (pkB b n (i + 1)).toInt := by rcases hk with ⟨z, -⟩ | ⟨z, -⟩ | ⟨z, -⟩ <;> rw [z] <;> decide
    have ehp : hrB b n (i + 1) = pkB b n (i + 1) := (hr_iff hpos).mpr rfl
    have hlt := pkB_lt (b := b) (n := n) (i := i + 1) (fun q => by rw [q] at hpos; exact absurd hpos (by decide))
    have ei : (if hrB b n (i + 1) = (60 : Int32) then some (gu2 M 149 28 (nI (i + 1))) else if hrB b n (i + 1) = (62 : Int32) then some (gu2 M 149 28 (nI (i + 1))) else if hrB b n (i + 1) = (61 : Int32) then some (gu2 M 149 28 (nI (i + 1))) else gB (p_X12_wrongs (gu2 M 149 28 (nI (i + 1))) (1 : Int32) (gu2 M 149 28 (nI (i + 1)) 149 28)) fun r55 => some r55) = some (gu2 M 149 28 (nI (i + 1))) := by
      rw [ehp]
      rcases hk with ⟨z, -⟩ | ⟨z, -⟩ | ⟨z, -⟩
      · rw [if_pos z]
      · rw [if_neg (by rw [z]; decide), if_pos z]
      · rw [if_neg (by rw [z]; decide), if_neg (by rw [z]; decide), if_pos z]
    have h2 := qS_28 h1 (i + 1 + 1)
    have r2 := rB_c st.1 h2.2.2.2.2.2.2.2
    rw [ei, gB_v, h1.1, nI_1, gL_b, gL_b, q_sees r2 (by omega) h2.1, gB_v, ehp]
    by_cases c2 : isDg (pkB b n (i + 1 + 1)) = true
    · have hl2 := isDg_lt c2
      have v1 := d9 c2
      rw [if_pos c2, if_pos c2, if_neg n10]
      refine ⟨fun k p e => by exact absurd e (by simp), fun j ws e => ?_⟩
      rw [Sum.inr.injEq, Prod.mk.injEq] at e
      rw [← e.1, ← e.2]
      have h3 := qS_28 h2 (i + 1 + 1 + 1)
      have r3 := rB_c st.1 h3.2.2.2.2.2.2.2
      have dg1 := q_dig (v := 0) c2
      rw [show gFu = 999997 + 1 + 1 + 1 from rfl]
      unfold p_X12_counts_72
      rw [if_neg (show ¬ (2 : Int32) ≤ 0 by decide), x12_good h2.2.1, gB_v, if_neg n10, q_sees r2 (by omega) h2.1, gB_v, if_pos c2, if_neg n10, q_here r2 (by omega) h2.1, gB_v, show (10 : Int32) * 0 + hrB b n (i + 1 + 1) - 48 = _ from dg1, gL_b, h2.1, nI_1, gL_b, gL_b, show (0 : Int32) + 1 = 1 by decide]
      unfold p_X12_counts_72
      rw [if_neg (show ¬ (2 : Int32) ≤ 1 by decide), x12_good h3.2.1, gB_v, if_neg n10, q_sees r3 (by omega) h3.1, gB_v]
      by_cases c3 : isDg (pkB b n (i + 1 + 1 + 1)) = true
      · have hl3 := isDg_lt c3
        have v2 := d9 c3
        have h4 := qS_28 h3 (i + 1 + 1 + 1 + 1)
        rw [if_pos c3, if_neg n10, q_here r3 (by omega) h3.1, gB_v, q_dig c3, gL_b, h3.1, nI_1, gL_b, gL_b, show (1 : Int32) + 1 = 2 by decide]
        unfold p_X12_counts_72
        rw [if_pos (show (2 : Int32) ≤ 2 by decide)]
        have ev : dgS b n 2 (i + 1 + 1) 0 = (i + 1 + 1 + 1 + 1, 10 * (10 * 0 + ((pkB b n (i + 1 + 1)).toNatClampNeg - 48)) + ((pkB b n (i + 1 + 1 + 1)).toNatClampNeg - 48)) := by
          unfold dgS
          rw [if_pos c2]
          unfold dgS
          rw [if_pos c3]
          rfl
        rw [ev]
        exact cn_emit st h4 hW c1 (by omega)
      · rw [if_neg c3, if_pos p00]
        have ev : dgS b n 2 (i + 1 + 1) 0 = (i + 1 + 1 + 1, 10 * 0 + ((pkB b n (i + 1 + 1)).toNatClampNeg - 48)) := by
          unfold dgS
          rw [if_pos c2]
          unfold dgS
          rw [if_neg c3]
        rw [ev]
        exact cn_emit st h3 hW c1 (by omega)
    · have b3 := qS_b h2 (k := 1) (by omega) (by omega) (p := i + 1 + 1) (by omega)
      rw [if_neg c2, if_neg c2, if_pos p00, q_wrong0 h2.2.1, gB_v, h2.1, show gFu = 999999 + 1 from rfl]
      refine ⟨fun k p e => ?_, fun j ws e => by exact absurd e (by simp)⟩
      rw [Sum.inl.injEq, Prod.mk.injEq] at e
      rw [← e.1, ← e.2]
      exact ⟨_, cn_bad b3.2.2.1 _ _ _, i + 1 + 1, σ, by omega, by omega, b3⟩
theorem q_atom (st : qSt b n T s M0) {i L : Nat} {σ W : List Int32} {M : gIt} (h : qS s M0 i L σ W M) (hi : i ≤ n) (hW : W.length < 100) (hσ : σ.length ≤ 110) : (∀ k p, (if pkB b n i = 35 then hmS b n (i + 1) else whS b n T i) = .inl (k, p) → ∃ M', p_X12_atom M = some M' ∧ qF s M0 k p M') ∧ ∀ j ws, (if pkB b n i = 35 then hmS b n (i + 1) else whS b n T i) = .inr (j, ws) → ∃ M', p_X12_atom M = some M' ∧ qS s M0 j L σ (W ++ ws) M' := by
  have hn := st.1.1
  have r0 := rB_c st.1 h.2.2.2.2.2.2.2
  unfold p_X12_atom
  rw [q_here r0 (by omega) h.1, gB_v, gB_v, gB_v]
  by_cases c1 : pkB b n i = 42
  · have hlt := pkB_lt (b := b) (n := n) (i := i) (by rw [c1]; decide)
    rw [if_neg (show ¬ pkB b n i = 35 by rw [c1]; decide), if_pos ((hr_iff (by decide)).mpr c1)]
    unfold whS
    rw [if_pos c1]
    obtain ⟨v, ev, hv⟩ := q_whose r0 hlt h.1 h.2.1
    rw [ev, gB_v]
    dsimp only
    by_cases c2 : isLt (pkB b n (i + 1)) = true
    · obtain ⟨z1, z2, -⟩ := isLt_lt c2
      have h2 := qS_28 (qS_28 h (i + 1)) (i + 2)
      obtain ⟨g1, g2⟩ := (gm_who _ z2).1
      obtain ⟨M', e', c'⟩ := q_emit st h2 hW (nI (16 + ltO (pkB b n (i + 1)))) 2 v g1.symm (by rw [hv c2]; exact g2.symm)
      rw [if_pos c2, if_pos c2, e', gB_v]
      refine ⟨fun k p e => by exact absurd e (by simp), fun j ws e => ?_⟩
      rw [Sum.inr.injEq, Prod.mk.injEq] at e
      rw [← e.1, ← e.2]
      exact ⟨M', rfl, c'⟩
    · have b3 := qB_28 (qS_b (qS_28 h (i + 1)) (k := 1) (by omega) (by omega) (p := i + 1) (by omega)) (i + 2)
      rw [if_neg c2, if_neg c2, q_emitB b3.2.2.1, gB_v]
      refine ⟨fun k p e => ?_, fun j ws e => by exact absurd e (by simp)⟩
      rw [Sum.inl.injEq, Prod.mk.injEq] at e
      rw [← e.1, ← e.2]
      exact ⟨_, rfl, i + 2, σ, by omega, by omega, b3⟩
  · rw [if_neg (show ¬ hrB b n i = 42 from fun q => c1 ((hr_iff (by decide)).mp q))]
    by_cases c2 : pkB b n i = 35
    · have hlt := pkB_lt (b := b) (n := n) (i := i) (by rw [c2]; decide)
      rw [if_pos c2, if_pos ((hr_iff (by decide)).mpr c2)]
      obtain ⟨p1, p2⟩ := q_counts st h hlt hW hσ
      refine ⟨fun k p e => ?_, fun j ws e => ?_⟩
      · obtain ⟨M', e', f'⟩ := p1 k p e
        rw [e', gB_v]
        exact ⟨M', rfl, f'⟩
      · obtain ⟨M', e', f'⟩ := p2 j ws e
        rw [e', gB_v]
        exact ⟨M', rfl, f'⟩
    · rw [if_neg c2, if_neg (show ¬ hrB b n i = 35 from fun q => c2 ((hr_iff (by decide)).mp q)), q_letter, gB_v]
      unfold whS
      rw [if_neg c1]
      by_cases c3 : isLt (pkB b n i) = true
      · obtain ⟨z1, z2, -⟩ := isLt_lt c3
        rw [if_pos c3, if_pos c3, if_neg n10, q_who r0 h.1 h.2.1 c3, gB_v]
        dsimp only
        by_cases c4 : ltO (pkB b n i) = T
        · have b3 := qB_28 (qS_b h (k := 2) (by omega) (by omega) (p := i) (by omega)) (i + 1)
          rw [if_pos c4, if_pos c4, q_emitB b3.2.2.1, gB_v]
          refine ⟨fun k p e => ?_, fun j ws e => by exact absurd e (by simp)⟩
          rw [Sum.inl.injEq, Prod.mk.injEq] at e
          rw [← e.1, ← e.2]
          exact ⟨_, rfl, i + 1, σ, by omega, by omega, b3⟩
        · obtain ⟨g1, g2⟩ := (gm_who _ z2).2
          obtain ⟨M', e', c'⟩ := q_emit st (qS_28 h (i + 1)) hW (nI (ltO (pkB b n i))) 1 (nI (ltO (pkB b n i))) g1.symm g2.symm
          rw [if_neg c4, if_neg c4, e', gB_v]
          refine ⟨fun k p e => by exact absurd e (by simp), fun j ws e => ?_⟩
          rw [Sum.inr.injEq, Prod.mk.injEq] at e
          rw [← e.1, ← e.2]
          exact ⟨M', rfl, c'⟩
      · have b3 := qS_b h (k := 1) (by omega) (by omega) (p := i) (by omega)
        rw [if_neg c3, if_neg c3, if_pos p00, q_wrong0 h.2.1, gB_v, h.1]
        refine ⟨fun k p e => ?_, fun j ws e => by exact absurd e (by simp)⟩
        rw [Sum.inl.injEq, Prod.mk.injEq] at e
        rw [← e.1, ← e.2]
        exact ⟨_, rfl, i, σ, by omega, by omega, b3⟩
/-! the loop, a turn at a time -/
theorem cd_bad {M : gIt} (h : (M 149 30).toInt < 0) (f : Nat) (x1 : Int32) : p_X12_condition_16 (f + 1) M x1 = some M := by
  unfold p_X12_condition_16
  rw [x12_nogood h, gB_v, if_pos p00]
theorem cd_0 {M : gIt} (h : M 149 30 = 0) (h34 : M 149 34 = 0) (f : Nat) (x1 : Int32) : p_X12_condition_16 (f + 1) M x1 = some M := by
  unfold p_X12_condition_16
  rw [x12_good h, gB_v, if_neg n10, h34, if_pos (show (0 : Int32) ≤ 0 by decide)]
theorem cd_w {M : gIt} {c : Int32} (h : M 149 30 = 0) (h34 : ¬ M 149 34 ≤ 0) (hr : p_X12_here M = some c) (f : Nat) : p_X12_condition_16 (f + 1) M 1 = if c = 33 ∨ c = 40 then (gB (p_X12_opens M) fun r => p_X12_condition_16 f r 1) else gB (p_X12_atom M) fun r47 => gB (p_X12_ends r47) fun r49 => p_X12_condition_16 f r49 0 := by
  conv => lhs; unfold p_X12_condition_16
  rw [x12_good h, gB_v, if_neg n10, if_neg h34, hr, gB_v, if_neg n10]
  by_cases c1 : c = 33
  · rw [if_pos c1, if_pos (Or.inl c1)]
  · rw [if_neg c1]
    by_cases c2 : c = 40
    · rw [if_pos c2, if_pos (Or.inr c2)]
    · have c12 : ¬ (c = 33 ∨ c = 40) := fun q => by
        rcases q with q | q
        · exact c1 q
        · exact c2 q
      rw [if_neg c2, if_neg c12, if_neg n10]
theorem cd_n {M : gIt} {c : Int32} (h : M 149 30 = 0) (h34 : ¬ M 149 34 ≤ 0) (hr : p_X12_here M = some c) (f : Nat) : p_X12_condition_16 (f + 1) M 0 = if c = 38 then (gB (p_X12_joins M 0) fun r => gB (p_X12_puts r c) fun r => p_X12_condition_16 f r 1) else if c = 124 then (gB (p_X12_joins M 1) fun r => gB (p_X12_puts r c) fun r => p_X12_condition_16 f r 1) else if c = 41 then (gB (p_X12_joins M (1 : Int32)) fun r27 => gL (((r27 149 34) - (1 : Int32))) fun z29 => gL (gu2 r27 149 34 z29) fun I30 => gL (((I30 149 33) - (1 : Int32))) fun z31 => gL (gu2 I30 149 33 z31) fun I32 => gL (((I32 149 28) + (1 : Int32))) fun z33 => gL (gu2 I32 149 28 z33) fun I34 => if (I34 149 34) ≤ 0 then p_X12_condition_16 f I34 0 else gB (p_X12_ends I34) fun r36 => p_X12_condition_16 f r36 0) else (gB (p_X12_wrongs M (1 : Int32) (M 149 28)) fun r25 => p_X12_condition_16 f r25 0) := by
  conv => lhs; unfold p_X12_condition_16
  rw [x12_good h, gB_v, if_neg n10, if_neg h34, hr, gB_v, if_pos p00, if_pos p00]
  by_cases c1 : c = 38
  · rw [if_pos c1, if_pos c1, if_neg (by rw [c1]; decide), gB_v]
  · rw [if_neg c1, if_neg c1]
    by_cases c2 : c = 124
    · rw [if_pos c2, if_pos c2, if_pos c2, gB_v]
    · rw [if_neg c2, if_neg c2]
def stC (M : gIt) (x1 : Int32) (M' : gIt) (x1' : Int32) (m : Nat) : Prop := ∃ k, k ≤ m ∧ ∀ f, p_X12_condition_16 (f + k) M x1 = p_X12_condition_16 f M' x1'
theorem stC_tr {A B C : gIt} {x y z : Int32} {m m' : Nat} (h : stC A x B y m) (h' : stC B y C z m') : stC A x C z (m + m') := by
  obtain ⟨k, hk, e⟩ := h
  obtain ⟨k', hk', e'⟩ := h'
  refine ⟨k' + k, by omega, fun f => ?_⟩
  rw [← Nat.add_assoc, e, e']
theorem stC_le {A B : gIt} {x y : Int32} {m m' : Nat} (h : stC A x B y m) (hm : m ≤ m') : stC A x B y m' := by
  obtain ⟨k, hk, e⟩ := h
  exact ⟨k, by omega, e⟩
def stD (s : Nat) (M0 M : gIt) (x1 : Int32) (k p m : Nat) : Prop := ∃ q M', q ≤ m ∧ qF s M0 k p M' ∧ ∀ f, p_X12_condition_16 (f + q) M x1 = some M'
theorem stD_tr {A B : gIt} {x y : Int32} {m m' k p : Nat} (h : stC A x B y m) (h' : stD s M0 B y k p m') : stD s M0 A x k p (m + m') := by
  obtain ⟨q, hq, e⟩ := h
  obtain ⟨q', M', hq', hf, e'⟩ := h'
  refine ⟨q' + q, M', by omega, hf, fun f => ?_⟩
  rw [← Nat.add_assoc, e, e']
theorem stD_le {A : gIt} {x : Int32} {m m' k p : Nat} (h : stD s M0 A x k p m) (hm : m ≤ m') : stD s M0 A x k p m' := by
  obtain ⟨q, M', hq, hf, e⟩ := h
  exact ⟨q, M', by omega, hf, e⟩
/-- up to the signs of not that end here -/
def stE (M M' : gIt) (m e : Nat) : Prop := ∃ k, k ≤ m ∧ ∀ f, p_X12_condition_16 (f + k) M 1 = gB (p_X12_ends_0 e M') fun r => p_X12_condition_16 f r 0
theorem stE_tr {A B C : gIt} {m m' e : Nat} (h : stC A 1 B 1 m) (h' : stE B C m' e) : stE A C (m + m') e := by
  obtain ⟨k, hk, e⟩ := h
  obtain ⟨k', hk', e'⟩ := h'
  refine ⟨k' + k, by omega, fun f => ?_⟩
  rw [← Nat.add_assoc, e, e']
theorem stE_C {A B : gIt} {i L m e : Nat} {σ W : List Int32} (h : stE A B m e) (hq : qS s M0 i L σ W B) (hσ : σ.length ≤ 110) (ht : ¬ tpS σ = 33) (he : 1 ≤ e) : stC A 1 B 0 m := by
  obtain ⟨k, hk, e'⟩ := h
  refine ⟨k, hk, fun f => ?_⟩
  rw [e' f, show e = (e - 1) + 1 by omega, q_ends0 hq hσ ht, gB_v]
end Qn
