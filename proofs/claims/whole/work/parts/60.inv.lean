/-! ===== what holds between two calls: the office's cells and the reference's ===== -/
def iScal (I : gIt) (P ns nS nC nP nT : Nat) : Prop :=
  (I 149 2 = I 0 14 ∧ 1700 ≤ (I 0 14).toInt ∧ (I 0 14).toInt ≤ 1999) ∧
  (I 1 7 = nI P ∧ I 149 3 = nI P ∧ P ≤ 16) ∧
  (I 0 13 = nI ns ∧ I 149 4 = nI ns ∧ ns ≤ 10) ∧
  (I 84 10 = nI nS ∧ I 149 5 = nI nS ∧ nS ≤ 40) ∧
  (I 95 5 = nI nC ∧ I 149 6 = nI nC ∧ nC ≤ 20) ∧
  (I 1 8 = nI nP ∧ I 149 7 = nI nP ∧ nP ≤ 100) ∧
  (I 11 1 = nI nT ∧ I 149 1 = nI nT ∧ nT ≤ 100 ∧ nT % 20 = 0) ∧
  (I 149 8 = I 9 1 ∧ 0 ≤ (I 9 1).toInt ∧ (I 9 1).toInt ≤ 20) ∧
  (I 149 9 = I 0 15 ∧ 0 ≤ (I 0 15).toInt ∧ (I 0 15).toInt ≤ 50)
/-- a person: the same on both sides; births, deaths and when they were told in their order -/
def iPer1 (I : gIt) (o : Nat) : Prop :=
  (I 151 o = I 2 o ∧ I 152 o = I 3 o ∧ I 153 o = I 4 o ∧ I 154 o = I 5 o) ∧
  (1600 ≤ (I 2 o).toInt ∧ (I 2 o).toInt ≤ (I 4 o).toInt ∧ (I 4 o).toInt ≤ (I 0 14).toInt) ∧
  (I 3 o = -1 ∨ ∃ k, k < o ∧ I 3 o = nI k) ∧
  (I 5 o = -1 ∨ (I 155 o = I 6 o ∧ (I 2 o).toInt ≤ (I 5 o).toInt ∧ (I 5 o).toInt ≤ (I 6 o).toInt ∧ (I 4 o).toInt ≤ (I 6 o).toInt ∧ (I 6 o).toInt ≤ (I 0 14).toInt))
def iTab1 (I : gIt) (k i : Nat) : Prop :=
  I 156 (12 * k + i) = I 10 (12 * k + i) ∧ 0 ≤ (I 10 (12 * k + i)).toInt ∧ (I 10 (12 * k + i)).toInt ≤ 200 ∧ (i < 11 → (I 10 (12 * k + i + 1)).toInt ≤ (I 10 (12 * k + i)).toInt) ∧ (i = 11 → I 10 (12 * k + i) = 0)
def iSal1 (I : gIt) (P ns i : Nat) : Prop :=
  (I 174 i = I 85 i ∧ I 175 i = I 86 i ∧ I 176 i = I 87 i ∧ I 177 i = I 88 i ∧ I 178 i = I 89 i ∧ I 180 i = I 90 i ∧ I 179 i = I 91 i ∧ I 181 i = I 92 i ∧ I 182 i = I 93 i ∧ I 183 i = I 94 i) ∧
  (∃ k, k < P ∧ I 85 i = nI k) ∧ (∃ k, k < P ∧ I 88 i = nI k) ∧ ¬ I 85 i = I 88 i ∧
  (1 ≤ (I 87 i).toInt ∧ (I 87 i).toInt ≤ 1000) ∧ (0 ≤ (I 89 i).toInt ∧ (I 89 i).toInt ≤ 100000) ∧ (I 90 i = 0 ∨ I 90 i = 1) ∧
  (1700 ≤ (I 91 i).toInt ∧ (I 91 i).toInt ≤ (I 0 14).toInt) ∧ (I 92 i = -1 ∨ (1700 ≤ (I 92 i).toInt ∧ (I 92 i).toInt ≤ (I 0 14).toInt)) ∧ (I 94 i = -1 ∨ (1700 ≤ (I 94 i).toInt ∧ (I 94 i).toInt ≤ (I 0 14).toInt)) ∧
  (∃ s, s < ns ∧ I 86 i = nI s ∧ ∀ k, k < 16 → I (14 + 6 * s) 6 = nI k → I 5 k = -1 ∨ ((I 91 i).toInt ≤ (I 6 k).toInt ∧ (I 94 i = -1 ∨ (I 94 i).toInt ≤ (I 6 k).toInt)))
def iChg1 (I : gIt) (P ns i : Nat) : Prop :=
  (I 184 i = I 96 i ∧ I 185 i = I 97 i ∧ I 186 i = I 98 i ∧ I 187 i = I 99 i ∧ I 188 i = I 100 i) ∧ (∃ k, k < P ∧ I 96 i = nI k) ∧ (∃ k, k < ns ∧ I 97 i = nI k) ∧ (∃ k, k < P ∧ I 98 i = nI k) ∧ (1 ≤ (I 99 i).toInt ∧ (I 99 i).toInt ≤ 100000)
/-- the papers of person o: their first and last year, out of the list -/
def iPap1 (I : gIt) (nP o : Nat) : Prop :=
  (I 7 o = -1 ∧ I 8 o = -1 ∧ ∀ k, k < nP → ¬ I 192 k = nI o) ∨
  ((∃ k, k < nP ∧ I 192 k = nI o ∧ I 193 k = I 7 o) ∧ (∃ k, k < nP ∧ I 192 k = nI o ∧ I 193 k = I 8 o) ∧ (∀ k, k < nP → I 192 k = nI o → (I 7 o).toInt ≤ (I 193 k).toInt ∧ (I 193 k).toInt ≤ (I 8 o).toInt))
/-- a word of a condition: its kind and what it speaks of, as the reference writes them -/
def gmc (w : Int32) : Int32 := if w = -1 then 6 else if w = -2 then 38 else if w = -3 then 124 else if w < 16 then 1 else if w < 32 then 2 else if w < 200 then 3 else if w < 300 then 4 else 5
def gma (w : Int32) : Int32 := if w < 0 then 0 else if w < 16 then w else if w < 32 then w - 16 else if w < 200 then w - 100 else if w < 300 then w - 200 else w - 300
def gword (w : Int32) : Prop := w = -1 ∨ w = -2 ∨ w = -3 ∨ (0 ≤ w.toInt ∧ w.toInt < 32) ∨ (100 ≤ w.toInt ∧ w.toInt < 400)
/-- how many truths wait behind the words i .. j of a row (none: the words don't fit) -/
def gdep (f : Nat → Int32) (i : Nat) : Nat → Option Nat
  | 0 => some 0
  | n + 1 => (gdep f i n).bind fun d => if f (i + n) = -1 then (if 1 ≤ d then some d else none) else if f (i + n) = -2 ∨ f (i + n) = -3 then (if 2 ≤ d then some (d - 1) else none) else if d < 20 then some (d + 1) else none
def gEnd (f : Nat → Int32) (k : Nat) : Nat := if k = 0 then 0 else (f (k - 1)).toNatClampNeg
/-- settlement s: the same on both sides -/
def iSet1 (I : gIt) (P s : Nat) : Prop :=
  (I 157 s = I (14 + 6 * s) 5 ∧ 1 ≤ (I (14 + 6 * s) 5).toInt ∧ (I (14 + 6 * s) 5).toInt ≤ 100000) ∧
  (I 158 s = I (14 + 6 * s) 6 ∧ ∃ k, k < P ∧ I (14 + 6 * s) 6 = nI k) ∧
  (I 159 s = I (14 + 6 * s) 7 ∧ 0 ≤ (I (14 + 6 * s) 7).toInt ∧ (I (14 + 6 * s) 7).toInt ≤ 3) ∧
  (∃ C, 1 ≤ C ∧ C ≤ 8 ∧ I (14 + 6 * s) 8 = nI C ∧ I 160 s = nI C ∧
    (∀ k, k < C →
      -- its takers
      (∃ n, 1 ≤ n ∧ n ≤ 4 ∧ I 161 (8 * s + k) = nI n ∧ I (15 + 6 * s) k = nI (gEnd (I (15 + 6 * s)) k + n) ∧ gEnd (I (15 + 6 * s)) k + n ≤ 4 * (k + 1) ∧
        ∀ x, x < n → ∃ t, t < 32 ∧ I (17 + 6 * s) (gEnd (I (15 + 6 * s)) k + x) = nI t ∧ I 164 (4 * (8 * s + k) + x) = (if 16 ≤ t then 1 else 0) ∧ I 165 (4 * (8 * s + k) + x) = nI (t % 16) ∧ I 166 (4 * (8 * s + k) + x) = I (18 + 6 * s) (gEnd (I (15 + 6 * s)) k + x) ∧ 1 ≤ (I (18 + 6 * s) (gEnd (I (15 + 6 * s)) k + x)).toInt ∧ (I (18 + 6 * s) (gEnd (I (15 + 6 * s)) k + x)).toInt ≤ 9) ∧
      -- its condition
      (∃ n, I 162 (8 * s + k) = nI (gEnd (I (16 + 6 * s)) k) ∧ I 163 (8 * s + k) = nI (gEnd (I (16 + 6 * s)) k + n) ∧ I (16 + 6 * s) k = nI (gEnd (I (16 + 6 * s)) k + n) ∧ gEnd (I (16 + 6 * s)) k + n ≤ 100 ∧ (n = 0 ∨ gdep (I (19 + 6 * s)) (gEnd (I (16 + 6 * s)) k) n = some 1))) ∧
    -- the words, and who is named
    (∀ i, i < gEnd (I (16 + 6 * s)) C → gword (I (19 + 6 * s) i) ∧ I 167 (100 * s + i) = gmc (I (19 + 6 * s) i) ∧ I 168 (100 * s + i) = gma (I (19 + 6 * s) i)) ∧
    (∀ o, o < 16 → (gushr (I (14 + 6 * s) 11) (nI o) &&& 1 = 1 ↔ ((∃ x, x < gEnd (I (15 + 6 * s)) C ∧ I (17 + 6 * s) x = nI o) ∨ ∃ i, i < gEnd (I (16 + 6 * s)) C ∧ I (19 + 6 * s) i = nI o))) ∧
    (∀ o, o < 16 → (gushr (I (14 + 6 * s) 12) (nI o) &&& 1 = 1 ↔ ((∃ x, x < gEnd (I (15 + 6 * s)) C ∧ I (17 + 6 * s) x = nI (16 + o)) ∨ ∃ i, i < gEnd (I (16 + 6 * s)) C ∧ I (19 + 6 * s) i = nI (16 + o)))))
/-- a word of an act, as the reference writes it -/
def gxc (w : Int32) : Int32 := if 0 ≤ w then 1 else if w = -6 then 43 else if w = -7 then 45 else if w = -8 then 42 else 2
def gxa (w : Int32) : Int32 := if 0 ≤ w then w else if w = -1 then 112 else if w = -2 then 119 else if w = -3 then 97 else if w = -4 then 118 else if w = -5 then 116 else 0
/-- how many numbers wait behind the words i .. of an act; how many of the words are prices -/
def gxd (f : Nat → Int32) (i : Nat) : Nat → Option Nat
  | 0 => some 0
  | n + 1 => (gxd f i n).bind fun d => if f (i + n) = -6 ∨ f (i + n) = -7 ∨ f (i + n) = -8 then (if 2 ≤ d then some (d - 1) else none) else if d < 16 then some (d + 1) else none
def gxp (f : Nat → Int32) (i : Nat) : Nat → Nat
  | 0 => 0
  | n + 1 => gxp f i n + if f (i + n) = -1 then 1 else 0
def iAct1 (I : gIt) (a : Nat) : Prop :=
  ∃ x y : Nat, x + y ≤ 59 ∧ I a 6 = nI (x + y) ∧ I a 7 = nI x ∧ (I a 10 = 0 ∨ I a 10 = 1) ∧ I 149 60 = nI (x + y + 1) ∧
    (∀ i, i < x + y → -8 ≤ (I (a + 1) i).toInt ∧ I 189 i = gxc (I (a + 1) i) ∧ I 190 i = gxa (I (a + 1) i)) ∧ I 189 (x + y) = (if I a 10 = 1 then 60 else 62) ∧
    gxd (I (a + 1)) 0 x = some 1 ∧ gxd (I (a + 1)) x y = some 1 ∧ gxp (I (a + 1)) 0 x ≤ 31 ∧ gxp (I (a + 1)) x y ≤ 31
def iRest (I : gIt) (w : Bool) (P ns nS nC nP nT : Nat) : Prop :=
  (∀ o, o < P → iPer1 I o) ∧ (∀ k i, k < 4 → i < 12 → iTab1 I k i) ∧ (∀ j, j < nT → I 12 j = I 150 j &&& 255) ∧
  (∀ i, i < nS → iSal1 I P ns i) ∧ (∀ i, i < nC → iChg1 I P ns i) ∧ (∀ k, k < nP → (∃ o, o < P ∧ I 192 k = nI o) ∧ 0 ≤ (I 193 k).toInt) ∧ (∀ o, o < P → iPap1 I nP o) ∧
  (∀ s, s < ns → iSet1 I P s) ∧ (I 149 59 = I 0 12 ∧ (I 0 12 = 0 ∨ (I 0 12 = 1 ∧ iAct1 I (gact w))))
/-- THE INVARIANT -/
def gInv (I : gIt) (_ : gJt) (w : Bool) : Prop := ∃ P ns nS nC nP nT : Nat, iScal I P ns nS nC nP nT ∧ iRest I w P ns nS nC nP nT
theorem gInv_0 : gInv gIz gz64 false := by
  refine ⟨0, 0, 0, 0, 0, 0, ⟨by decide, by decide, by decide, by decide, by decide, by decide, by decide, by decide, by decide⟩, fun o h => absurd h (Nat.not_lt_zero o), fun k i hk hi => ?_, fun j h => absurd h (Nat.not_lt_zero j), fun j h => absurd h (Nat.not_lt_zero j), fun j h => absurd h (Nat.not_lt_zero j), fun j h => absurd h (Nat.not_lt_zero j), fun j h => absurd h (Nat.not_lt_zero j), fun j h => absurd h (Nat.not_lt_zero j), rfl, Or.inl rfl⟩
  have e : ∀ j, gIz 10 j = 0 := fun j => rfl
  have e2 : ∀ j, gIz 156 j = 0 := fun j => rfl
  unfold iTab1
  simp [e, e2]
