/-! ===== numbers; what a call that only reckons leaves as it was ===== -/
theorem i32_toInt64 (x : Int32) : (Int32.toInt64 x).toInt = x.toInt := Int32.toInt_toInt64 x
theorem lgc_lt {a b : Int64} : lg_cmp a b < 0 ↔ a.toInt < b.toInt := by
  unfold lg_cmp
  by_cases h1 : a > b
  · rw [if_pos h1]
    have : b.toInt < a.toInt := Int64.lt_iff_toInt_lt.mp h1
    constructor
    · intro q; exact absurd q (by decide)
    · intro q; omega
  · rw [if_neg h1]
    have h1' : ¬ b.toInt < a.toInt := fun q => h1 (Int64.lt_iff_toInt_lt.mpr q)
    by_cases h2 : a = b
    · rw [if_pos h2, h2]
      constructor
      · intro q; exact absurd q (by decide)
      · intro q; omega
    · rw [if_neg h2]
      have h2' : ¬ a.toInt = b.toInt := fun q => h2 (Int64.toInt_inj.mp q)
      constructor
      · intro _; omega
      · intro _; decide
theorem lgc_gt {a b : Int64} : 0 < lg_cmp a b ↔ b.toInt < a.toInt := by
  unfold lg_cmp
  by_cases h1 : a > b
  · rw [if_pos h1]
    have : b.toInt < a.toInt := Int64.lt_iff_toInt_lt.mp h1
    constructor
    · intro _; omega
    · intro _; decide
  · rw [if_neg h1]
    have h1' : ¬ b.toInt < a.toInt := fun q => h1 (Int64.lt_iff_toInt_lt.mpr q)
    by_cases h2 : a = b
    · rw [if_pos h2, h2]
      constructor
      · intro q; exact absurd q (by decide)
      · intro q; omega
    · rw [if_neg h2]
      constructor
      · intro q; exact absurd q (by decide)
      · intro q; omega
theorem x12_lies (a b c : Int64) : p_X12_lies a b c = some (if b.toInt ≤ a.toInt ∧ a.toInt ≤ c.toInt then 1 else 0) := by
  unfold p_X12_lies
  by_cases h1 : a.toInt < b.toInt
  · rw [if_pos (lgc_lt.mpr h1), if_neg (by omega)]
  · rw [if_neg (fun q => h1 (lgc_lt.mp q))]
    by_cases h2 : c.toInt < a.toInt
    · rw [if_pos (lgc_gt.mpr h2), if_neg (by omega)]
    · rw [if_neg (fun q => h2 (lgc_gt.mp q)), if_pos (by omega)]
theorem nI_clampI {x : Int32} {n : Nat} (h : x = nI n) (hn : n < 2 ^ 31) : x.toNatClampNeg = n := by rw [h, nI_clamp hn]
theorem i_of {x : Int32} (h0 : 0 ≤ x.toInt) : ∃ n : Nat, n < 2 ^ 31 ∧ x = nI n ∧ x.toInt = (n : Int) := by
  obtain ⟨n, hn, e⟩ := nI_of (x := x) (by rw [Int32.lt_iff_toInt_lt]; show ¬ x.toInt < (0 : Int32).toInt; simp; exact h0)
  exact ⟨n, hn, e, by rw [e, nI_toInt hn]⟩
theorem gin_nI {n N : Nat} (h : n < N) (hN : N < 2 ^ 31) : gin (nI n) N = true := by
  unfold gin
  rw [nI_clamp (by omega)]
  have : ¬ nI n < 0 := nI_pos (by omega)
  simp [this, h]
/-- the cells and fields that calls leave to the next -/
def gco (x : Nat) : Prop := (2 ≤ x ∧ x ≤ 8) ∨ x = 10 ∨ x = 12 ∨ (14 ≤ x ∧ x ≤ 73) ∨ (85 ≤ x ∧ x ≤ 94) ∨ (96 ≤ x ∧ x ≤ 100) ∨ x = 104 ∨ x = 127 ∨ (150 ≤ x ∧ x ≤ 168) ∨ (174 ≤ x ∧ x ≤ 190) ∨ x = 192 ∨ x = 193
def gkeep (I I' : gIt) : Prop := (∀ x, gco x → I' x = I x) ∧
  (I' 0 12 = I 0 12 ∧ I' 0 13 = I 0 13 ∧ I' 0 14 = I 0 14 ∧ I' 0 15 = I 0 15 ∧ I' 1 7 = I 1 7 ∧ I' 1 8 = I 1 8 ∧ I' 9 1 = I 9 1 ∧ I' 11 1 = I 11 1 ∧ I' 84 10 = I 84 10 ∧ I' 95 5 = I 95 5) ∧
  (I' 103 6 = I 103 6 ∧ I' 103 7 = I 103 7 ∧ I' 103 10 = I 103 10 ∧ I' 126 6 = I 126 6 ∧ I' 126 7 = I 126 7 ∧ I' 126 10 = I 126 10) ∧
  (I' 149 1 = I 149 1 ∧ I' 149 2 = I 149 2 ∧ I' 149 3 = I 149 3 ∧ I' 149 4 = I 149 4 ∧ I' 149 5 = I 149 5 ∧ I' 149 6 = I 149 6 ∧ I' 149 7 = I 149 7 ∧ I' 149 8 = I 149 8 ∧ I' 149 9 = I 149 9 ∧ I' 149 59 = I 149 59 ∧ I' 149 60 = I 149 60)
theorem gkeep_rf (I : gIt) : gkeep I I := ⟨fun _ _ => rfl, ⟨rfl, rfl, rfl, rfl, rfl, rfl, rfl, rfl, rfl, rfl⟩, ⟨rfl, rfl, rfl, rfl, rfl, rfl⟩, rfl, rfl, rfl, rfl, rfl, rfl, rfl, rfl, rfl, rfl, rfl⟩
theorem gkeep_tr {I I' I'' : gIt} (h : gkeep I I') (h' : gkeep I' I'') : gkeep I I'' := by
  obtain ⟨a, ⟨b1, b2, b3, b4, b5, b6, b7, b8, b9, b10⟩, ⟨c1, c2, c3, c4, c5, c6⟩, d1, d2, d3, d4, d5, d6, d7, d8, d9, d10, d11⟩ := h
  obtain ⟨a', ⟨b1', b2', b3', b4', b5', b6', b7', b8', b9', b10'⟩, ⟨c1', c2', c3', c4', c5', c6'⟩, d1', d2', d3', d4', d5', d6', d7', d8', d9', d10', d11'⟩ := h'
  exact ⟨fun x hx => (a' x hx).trans (a x hx), ⟨b1'.trans b1, b2'.trans b2, b3'.trans b3, b4'.trans b4, b5'.trans b5, b6'.trans b6, b7'.trans b7, b8'.trans b8, b9'.trans b9, b10'.trans b10⟩, ⟨c1'.trans c1, c2'.trans c2, c3'.trans c3, c4'.trans c4, c5'.trans c5, c6'.trans c6⟩, d1'.trans d1, d2'.trans d2, d3'.trans d3, d4'.trans d4, d5'.trans d5, d6'.trans d6, d7'.trans d7, d8'.trans d8, d9'.trans d9, d10'.trans d10, d11'.trans d11⟩
/-- where a write keeps what is kept: no core cell, none of the fields -/
def gfree (a j : Nat) : Prop := ¬ gco a ∧ ¬ (a = 0 ∧ 12 ≤ j) ∧ ¬ (a = 1 ∧ 7 ≤ j) ∧ ¬ (a = 9) ∧ ¬ (a = 11 ∧ j = 1) ∧ ¬ (a = 84) ∧ ¬ (a = 95) ∧ ¬ ((a = 103 ∨ a = 126) ∧ (j = 6 ∨ j = 7 ∨ j = 10)) ∧ ¬ (a = 149 ∧ (j ≤ 9 ∨ j = 59 ∨ j = 60))
theorem gkeep_w {I : gIt} {a j : Nat} {v : Int32} (h : gfree a j) : gkeep I (gu2 I a j v) := by
  obtain ⟨h0, h1, h2, h3, h4, h5, h6, h7, h8⟩ := h
  have k : ∀ x y, ¬ (x = a ∧ y = j) → gu2 I a j v x y = I x y := fun x y q => by unfold gu2; rw [if_neg q]
  refine ⟨fun x hx => gu2_ne (fun q => h0 (q ▸ hx)), ⟨?_, ?_, ?_, ?_, ?_, ?_, ?_, ?_, ?_, ?_⟩, ⟨?_, ?_, ?_, ?_, ?_, ?_⟩, ?_, ?_, ?_, ?_, ?_, ?_, ?_, ?_, ?_, ?_, ?_⟩ <;> apply k <;> omega
theorem iPer1_k {I I' : gIt} (h : gkeep I I') (o : Nat) : iPer1 I' o = iPer1 I o := by
  have e : ∀ x, gco x → I' x = I x := h.1
  unfold iPer1
  rw [e 151 (by unfold gco; omega), e 152 (by unfold gco; omega), e 153 (by unfold gco; omega), e 154 (by unfold gco; omega), e 155 (by unfold gco; omega), e 2 (by unfold gco; omega), e 3 (by unfold gco; omega), e 4 (by unfold gco; omega), e 5 (by unfold gco; omega), e 6 (by unfold gco; omega), h.2.1.2.2.1]
theorem iTab1_k {I I' : gIt} (h : gkeep I I') (k i : Nat) : iTab1 I' k i = iTab1 I k i := by
  unfold iTab1
  rw [h.1 156 (by unfold gco; omega), h.1 10 (by unfold gco; omega)]
theorem iSal1_k {I I' : gIt} (h : gkeep I I') (P ns i : Nat) (hn : ns ≤ 10) : iSal1 I' P ns i ↔ iSal1 I P ns i := by
  have e : ∀ x, gco x → I' x = I x := h.1
  unfold iSal1
  rw [e 174 (by unfold gco; omega), e 175 (by unfold gco; omega), e 176 (by unfold gco; omega), e 177 (by unfold gco; omega), e 178 (by unfold gco; omega), e 179 (by unfold gco; omega), e 180 (by unfold gco; omega), e 181 (by unfold gco; omega), e 182 (by unfold gco; omega), e 183 (by unfold gco; omega), e 85 (by unfold gco; omega), e 86 (by unfold gco; omega), e 87 (by unfold gco; omega), e 88 (by unfold gco; omega), e 89 (by unfold gco; omega), e 90 (by unfold gco; omega), e 91 (by unfold gco; omega), e 92 (by unfold gco; omega), e 93 (by unfold gco; omega), e 94 (by unfold gco; omega), e 5 (by unfold gco; omega), e 6 (by unfold gco; omega), h.2.1.2.2.1]
  have q : ∀ s, s < ns → I' (14 + 6 * s) = I (14 + 6 * s) := fun s hs => e _ (by unfold gco; omega)
  constructor
  · rintro ⟨h1, h2, h3, h4, h5, h6, h7, h8, h9, h10, s, hs, h11, h12⟩
    exact ⟨h1, h2, h3, h4, h5, h6, h7, h8, h9, h10, s, hs, h11, by rw [q s hs] at h12; exact h12⟩
  · rintro ⟨h1, h2, h3, h4, h5, h6, h7, h8, h9, h10, s, hs, h11, h12⟩
    exact ⟨h1, h2, h3, h4, h5, h6, h7, h8, h9, h10, s, hs, h11, by rw [q s hs]; exact h12⟩
theorem iChg1_k {I I' : gIt} (h : gkeep I I') (P ns i : Nat) : iChg1 I' P ns i = iChg1 I P ns i := by
  have e : ∀ x, gco x → I' x = I x := h.1
  unfold iChg1
  rw [e 184 (by unfold gco; omega), e 185 (by unfold gco; omega), e 186 (by unfold gco; omega), e 187 (by unfold gco; omega), e 188 (by unfold gco; omega), e 96 (by unfold gco; omega), e 97 (by unfold gco; omega), e 98 (by unfold gco; omega), e 99 (by unfold gco; omega), e 100 (by unfold gco; omega)]
theorem iPap1_k {I I' : gIt} (h : gkeep I I') (nP o : Nat) : iPap1 I' nP o = iPap1 I nP o := by
  have e : ∀ x, gco x → I' x = I x := h.1
  unfold iPap1
  rw [e 7 (by unfold gco; omega), e 8 (by unfold gco; omega), e 192 (by unfold gco; omega), e 193 (by unfold gco; omega)]
theorem iSet1_k {I I' : gIt} (h : gkeep I I') (P s : Nat) (hs : s < 10) : iSet1 I' P s = iSet1 I P s := by
  have e : ∀ x, gco x → I' x = I x := h.1
  unfold iSet1
  rw [e 157 (by unfold gco; omega), e 158 (by unfold gco; omega), e 159 (by unfold gco; omega), e 160 (by unfold gco; omega), e 161 (by unfold gco; omega), e 162 (by unfold gco; omega), e 163 (by unfold gco; omega), e 164 (by unfold gco; omega), e 165 (by unfold gco; omega), e 166 (by unfold gco; omega), e 167 (by unfold gco; omega), e 168 (by unfold gco; omega), e (14 + 6 * s) (by unfold gco; omega), e (15 + 6 * s) (by unfold gco; omega), e (16 + 6 * s) (by unfold gco; omega), e (17 + 6 * s) (by unfold gco; omega), e (18 + 6 * s) (by unfold gco; omega), e (19 + 6 * s) (by unfold gco; omega)]
theorem iAct1_k {I I' : gIt} (h : gkeep I I') (w : Bool) : iAct1 I' (gact w) = iAct1 I (gact w) := by
  obtain ⟨e, -, ⟨c1, c2, c3, c4, c5, c6⟩, -, -, -, -, -, -, -, -, -, -, d⟩ := h
  cases w
  · show iAct1 I' 103 = iAct1 I 103
    unfold iAct1
    rw [c1, c2, c3, d, e (103 + 1) (by unfold gco; omega), e 189 (by unfold gco; omega), e 190 (by unfold gco; omega)]
  · show iAct1 I' 126 = iAct1 I 126
    unfold iAct1
    rw [c4, c5, c6, d, e (126 + 1) (by unfold gco; omega), e 189 (by unfold gco; omega), e 190 (by unfold gco; omega)]
theorem gInv_k {I I' : gIt} {J J' : gJt} {w : Bool} (h : gkeep I I') (hI : gInv I J w) : gInv I' J' w := by
  obtain ⟨P, ns, nS, nC, nP, nT, hs, r1, r2, r3, r4, r5, r6, r7, r8, r9⟩ := hI
  have hns := hs.2.2.1.2.2
  refine ⟨P, ns, nS, nC, nP, nT, ?_, fun o ho => ?_, fun k i hk hi => ?_, fun j hj => ?_, fun i hi => ?_, fun i hi => ?_, fun k hk => ?_, fun o ho => ?_, fun s hs => ?_, ?_⟩
  · obtain ⟨e, ⟨b1, b2, b3, b4, b5, b6, b7, b8, b9, b10⟩, -, d1, d2, d3, d4, d5, d6, d7, d8, d9, d10, d11⟩ := h
    unfold iScal at hs ⊢
    rw [b2, b3, b4, b5, b6, b7, b8, b9, b10, d1, d2, d3, d4, d5, d6, d7, d8, d9]
    exact hs
  · rw [iPer1_k h]; exact r1 o ho
  · rw [iTab1_k h]; exact r2 k i hk hi
  · rw [h.1 12 (by unfold gco; omega), h.1 150 (by unfold gco; omega)]; exact r3 j hj
  · exact (iSal1_k h P ns i hns).mpr (r4 i hi)
  · rw [iChg1_k h]; exact r5 i hi
  · rw [h.1 192 (by unfold gco; omega), h.1 193 (by unfold gco; omega)]; exact r6 k hk
  · rw [iPap1_k h]; exact r7 o ho
  · rw [iSet1_k h P s (by omega)]; exact r8 s hs
  · rw [iAct1_k h, h.2.1.1, h.2.2.2.2.2.2.2.2.2.2.2.2.1]; exact r9
