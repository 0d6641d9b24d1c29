/-! ===== a settlement's conditions: what they are, by recursive descent ===== -/
def isLt (c : Int32) : Bool := decide (97 ≤ c.toInt ∧ c.toInt ≤ 112)
def ltO (c : Int32) : Nat := c.toNatClampNeg - 97
def alL (b : Nat → Int32) (n : Nat) (F : Nat → Nat → gOut) (L : Nat) : Nat → Nat → List Int32 → gOut
  | 0, j, ws => .inr (j, ws)
  | m + 1, j, ws => if pkB b n j = 38 then (match F L (j + 1) with | .inl f => .inl f | .inr q => alL b n F L m q.1 (ws ++ q.2 ++ [-2])) else .inr (j, ws)
def alS (b : Nat → Int32) (n : Nat) (F : Nat → Nat → gOut) (L i : Nat) : gOut := match F L i with | .inl f => .inl f | .inr q => alL b n F L 100 q.1 q.2
def eiL (b : Nat → Int32) (n : Nat) (F : Nat → Nat → gOut) (L : Nat) : Nat → Nat → List Int32 → gOut
  | 0, j, ws => .inr (j, ws)
  | m + 1, j, ws => if pkB b n j = 124 then (match alS b n F L (j + 1) with | .inl f => .inl f | .inr q => eiL b n F L m q.1 (ws ++ q.2 ++ [-3])) else .inr (j, ws)
def eiS (b : Nat → Int32) (n : Nat) (F : Nat → Nat → gOut) (L i : Nat) : gOut := match alS b n F L i with | .inl f => .inl f | .inr q => eiL b n F L 100 q.1 q.2
/-- a person or children, as a taker or a piece -/
def whS (b : Nat → Int32) (n T i : Nat) : gOut := if pkB b n i = 42 then (if isLt (pkB b n (i + 1)) then .inr (i + 2, [nI (16 + ltO (pkB b n (i + 1)))]) else .inl (1, i + 1)) else if isLt (pkB b n i) then (if ltO (pkB b n i) = T then .inl (2, i) else .inr (i + 1, [nI (ltO (pkB b n i))])) else .inl (1, i)
def kdS (c : Int32) : Nat := if c = 60 then 100 else if c = 62 then 200 else if c = 61 then 300 else 0
def hmS (b : Nat → Int32) (n i : Nat) : gOut := if kdS (pkB b n i) = 0 then .inl (1, i) else if isDg (pkB b n (i + 1)) then .inr ((dgS b n 2 (i + 1) 0).1, [nI (kdS (pkB b n i) + (dgS b n 2 (i + 1) 0).2)]) else .inl (1, i + 1)
def piS (b : Nat → Int32) (n T : Nat) : Nat → Nat → Nat → gOut
  | 0, _, _ => .inl (0, 0)
  | fu + 1, L, i => if pkB b n i = 33 then (if L < 6 then (match piS b n T fu (L + 1) (i + 1) with | .inl f => .inl f | .inr q => .inr (q.1, q.2 ++ [-1])) else .inl (5, i)) else if pkB b n i = 40 then (if L < 6 then (match eiS b n (piS b n T fu) (L + 1) (i + 1) with | .inl f => .inl f | .inr q => if pkB b n q.1 = 41 then .inr (q.1 + 1, q.2) else .inl (1, q.1)) else .inl (5, i)) else if pkB b n i = 35 then hmS b n (i + 1) else whS b n T i
def rdC : Nat → List Int32 → Option Nat
  | d, [] => some d
  | d, w :: r => if w = -1 then (if 1 ≤ d then rdC d r else none) else if w = -2 ∨ w = -3 then (if 2 ≤ d then rdC (d - 1) r else none) else if d < 20 then rdC (d + 1) r else none
theorem rdC_c (d : Nat) (w : Int32) (r : List Int32) : rdC d (w :: r) = if w = -1 then (if 1 ≤ d then rdC d r else none) else if w = -2 ∨ w = -3 then (if 2 ≤ d then rdC (d - 1) r else none) else if d < 20 then rdC (d + 1) r else none := rfl
theorem rdC_bind : ∀ (u v : List Int32) (d : Nat), rdC d (u ++ v) = (rdC d u).bind (fun e => rdC e v) := by
  intro u
  induction u with
  | nil => intro v d; rfl
  | cons w r ih =>
    intro v d
    rw [List.cons_append, rdC_c, rdC_c]
    by_cases c0 : w = -1
    · rw [if_pos c0, if_pos c0]
      by_cases q : 1 ≤ d
      · rw [if_pos q, if_pos q]; exact ih v _
      · rw [if_neg q, if_neg q]; rfl
    · rw [if_neg c0, if_neg c0]
      by_cases c : w = -2 ∨ w = -3
      · rw [if_pos c, if_pos c]
        by_cases q : 2 ≤ d
        · rw [if_pos q, if_pos q]; exact ih v _
        · rw [if_neg q, if_neg q]; rfl
      · rw [if_neg c, if_neg c]
        by_cases q : d < 20
        · rw [if_pos q, if_pos q]; exact ih v _
        · rw [if_neg q, if_neg q]; rfl
theorem rdC_app (u v : List Int32) (d e : Nat) (h : rdC d u = some e) : rdC d (u ++ v) = rdC e v := by rw [rdC_bind, h]; rfl
def okC (n i d0 : Nat) (o : gOut) : Prop := ∀ j ws, o = .inr (j, ws) → i < j ∧ j ≤ n ∧ ws.length ≤ j - i ∧ (∀ d, d ≤ d0 → rdC d ws = some (d + 1)) ∧ ∀ w, w ∈ ws → gword w
theorem rdC_one {w : Int32} (h : 0 ≤ w.toInt) {d : Nat} (hd : d < 20) : rdC d [w] = some (d + 1) := by
  have n : ∀ z : Int32, z.toInt < 0 → ¬ w = z := fun z hz q => by rw [q] at h; omega
  rw [rdC_c, if_neg (n _ (by decide)), if_neg (fun q => by
    rcases q with q | q
    · exact n _ (by decide) q
    · exact n _ (by decide) q), if_pos hd]
  rfl
theorem isLt_lt {b : Nat → Int32} {n i : Nat} (h : isLt (pkB b n i) = true) : i < n ∧ ltO (pkB b n i) < 16 ∧ pkB b n i = nI (97 + ltO (pkB b n i)) := by
  have h2 := h
  unfold isLt at h2
  rw [decide_eq_true_eq] at h2
  refine ⟨pkB_lt (fun q => by rw [q] at h; exact absurd h (by decide)), ?_⟩
  obtain ⟨z, -, ez, tz⟩ := i_of (x := pkB b n i) (by omega)
  unfold ltO
  rw [ez, nI_clamp (by omega)]
  exact ⟨by omega, by congr 1; omega⟩
theorem wh_ok {b : Nat → Int32} {n T i L : Nat} (hL : L ≤ 6) : okC n i (2 * L + 2) (whS b n T i) := by
  intro j ws e
  unfold whS at e
  have key : ∀ v : Nat, v < 32 → (∀ d, d ≤ 2 * L + 2 → rdC d [nI v] = some (d + 1)) ∧ ∀ w, w ∈ [nI v] → gword w := fun v hv => ⟨fun d hd => rdC_one (by rw [nI_toInt (by omega)]; omega) (by omega), fun w hw => by
    rw [List.mem_singleton] at hw
    rw [hw]
    exact Or.inr (Or.inr (Or.inr (Or.inl (by rw [nI_toInt (by omega)]; omega))))⟩
  by_cases c1 : pkB b n i = 42
  · rw [if_pos c1] at e
    by_cases c2 : isLt (pkB b n (i + 1)) = true
    · obtain ⟨z1, z2, -⟩ := isLt_lt c2
      rw [if_pos c2, Sum.inr.injEq, Prod.mk.injEq] at e
      rw [← e.1, ← e.2]
      exact ⟨by omega, by omega, by rw [List.length_singleton]; omega, key _ (by omega)⟩
    · rw [if_neg c2] at e; exact absurd e (by simp)
  · rw [if_neg c1] at e
    by_cases c2 : isLt (pkB b n i) = true
    · obtain ⟨z1, z2, -⟩ := isLt_lt c2
      rw [if_pos c2] at e
      by_cases c3 : ltO (pkB b n i) = T
      · rw [if_pos c3] at e; exact absurd e (by simp)
      · rw [if_neg c3, Sum.inr.injEq, Prod.mk.injEq] at e
        rw [← e.1, ← e.2]
        exact ⟨by omega, by omega, by rw [List.length_singleton]; omega, key _ (by omega)⟩
    · rw [if_neg c2] at e; exact absurd e (by simp)
theorem dg2 {b : Nat → Int32} {n i : Nat} (h : isDg (pkB b n i) = true) : i < (dgS b n 2 i 0).1 ∧ (dgS b n 2 i 0).1 ≤ n ∧ (dgS b n 2 i 0).1 ≤ i + 2 ∧ (dgS b n 2 i 0).2 < 100 := by
  have d9 : ∀ i, isDg (pkB b n i) = true → (pkB b n i).toNatClampNeg - 48 ≤ 9 := fun i hc => by
    unfold isDg at hc
    rw [decide_eq_true_eq] at hc
    obtain ⟨z, -, ez, tz⟩ := i_of (x := pkB b n i) (by omega)
    rw [ez, nI_clamp (by omega)]
    omega
  have l1 := isDg_lt h
  have q1 := d9 i h
  unfold dgS
  rw [if_pos h]
  unfold dgS
  by_cases c : isDg (pkB b n (i + 1)) = true
  · rw [if_pos c]
    have l2 := isDg_lt c
    have q2 := d9 (i + 1) c
    unfold dgS
    dsimp only
    omega
  · rw [if_neg c]
    dsimp only
    omega
theorem kdS_r {c : Int32} (h : ¬ kdS c = 0) : (c = 60 ∧ kdS c = 100) ∨ (c = 62 ∧ kdS c = 200) ∨ (c = 61 ∧ kdS c = 300) := by
  unfold kdS at h ⊢
  by_cases c1 : c = 60
  · rw [if_pos c1]; exact Or.inl ⟨c1, rfl⟩
  · rw [if_neg c1] at h ⊢
    by_cases c2 : c = 62
    · rw [if_pos c2]; exact Or.inr (Or.inl ⟨c2, rfl⟩)
    · rw [if_neg c2] at h ⊢
      by_cases c3 : c = 61
      · rw [if_pos c3]; exact Or.inr (Or.inr ⟨c3, rfl⟩)
      · rw [if_neg c3] at h; exact absurd rfl h
theorem hm_ok {b : Nat → Int32} {n i L : Nat} (hL : L ≤ 6) : okC n i (2 * L + 2) (hmS b n i) := by
  intro j ws e
  unfold hmS at e
  by_cases c1 : kdS (pkB b n i) = 0
  · rw [if_pos c1] at e; exact absurd e (by simp)
  · rw [if_neg c1] at e
    by_cases c2 : isDg (pkB b n (i + 1)) = true
    · rw [if_pos c2, Sum.inr.injEq, Prod.mk.injEq] at e
      obtain ⟨d1, d2, d3, d4⟩ := dg2 c2
      have hk : kdS (pkB b n i) = 100 ∨ kdS (pkB b n i) = 200 ∨ kdS (pkB b n i) = 300 := by
        rcases kdS_r c1 with ⟨-, z⟩ | ⟨-, z⟩ | ⟨-, z⟩
        · exact Or.inl z
        · exact Or.inr (Or.inl z)
        · exact Or.inr (Or.inr z)
      rw [← e.1, ← e.2]
      refine ⟨by omega, d2, by rw [List.length_singleton]; omega, fun d hd => rdC_one (by rw [nI_toInt (by omega)]; omega) (by omega), fun w hw => ?_⟩
      rw [List.mem_singleton] at hw
      rw [hw]
      exact Or.inr (Or.inr (Or.inr (Or.inr (by rw [nI_toInt (by omega)]; omega))))
    · rw [if_neg c2] at e; exact absurd e (by simp)
theorem alL_ok {b : Nat → Int32} {n : Nat} {F : Nat → Nat → gOut} {L : Nat} (hF : ∀ i, okC n i (2 * L + 2) (F L i)) {i0 : Nat} : ∀ m j ws, i0 < j → j ≤ n → ws.length ≤ j - i0 → (∀ d, d ≤ 2 * L + 1 → rdC d ws = some (d + 1)) → (∀ w, w ∈ ws → gword w) → okC n i0 (2 * L + 1) (alL b n F L m j ws) := by
  intro m
  induction m with
  | zero =>
    intro j ws h1 h2 h3 h4 h5 j' ws' e
    unfold alL at e
    rw [Sum.inr.injEq, Prod.mk.injEq] at e
    rw [← e.1, ← e.2]
    exact ⟨h1, h2, h3, h4, h5⟩
  | succ m ih =>
    intro j ws h1 h2 h3 h4 h5
    unfold alL
    by_cases c : pkB b n j = 38
    · rw [if_pos c]
      cases e : F L (j + 1) with
      | inl f => intro j' ws' e'; exact absurd e' (by simp)
      | inr q =>
        obtain ⟨q1, q2, q3, q4, q5⟩ := hF (j + 1) q.1 q.2 e
        refine ih q.1 _ (by omega) q2 (by rw [List.length_append, List.length_append, List.length_singleton]; omega) (fun d hd => ?_) (fun w hw => ?_)
        · rw [List.append_assoc, rdC_app _ _ d (d + 1) (h4 d hd), rdC_app _ _ (d + 1) (d + 2) (q4 (d + 1) (by omega)), rdC_c, if_neg (by decide), if_pos (Or.inl rfl), if_pos (by omega)]
          rfl
        · rw [List.mem_append, List.mem_append, List.mem_singleton] at hw
          rcases hw with (hw | hw) | hw
          · exact h5 w hw
          · exact q5 w hw
          · rw [hw]; exact Or.inr (Or.inl rfl)
    · rw [if_neg c]
      intro j' ws' e
      rw [Sum.inr.injEq, Prod.mk.injEq] at e
      rw [← e.1, ← e.2]
      exact ⟨h1, h2, h3, h4, h5⟩
theorem alS_ok {b : Nat → Int32} {n : Nat} {F : Nat → Nat → gOut} {L : Nat} (hF : ∀ i, okC n i (2 * L + 2) (F L i)) (i : Nat) : okC n i (2 * L + 1) (alS b n F L i) := by
  unfold alS
  cases e : F L i with
  | inl f => intro j' ws' e'; exact absurd e' (by simp)
  | inr q =>
    obtain ⟨q1, q2, q3, q4, q5⟩ := hF i q.1 q.2 e
    exact alL_ok hF 100 q.1 q.2 q1 q2 q3 (fun d hd => q4 d (by omega)) q5
theorem eiL_ok {b : Nat → Int32} {n : Nat} {F : Nat → Nat → gOut} {L : Nat} (hF : ∀ i, okC n i (2 * L + 2) (F L i)) {i0 : Nat} : ∀ m j ws, i0 < j → j ≤ n → ws.length ≤ j - i0 → (∀ d, d ≤ 2 * L → rdC d ws = some (d + 1)) → (∀ w, w ∈ ws → gword w) → okC n i0 (2 * L) (eiL b n F L m j ws) := by
  intro m
  induction m with
  | zero =>
    intro j ws h1 h2 h3 h4 h5 j' ws' e
    unfold eiL at e
    rw [Sum.inr.injEq, Prod.mk.injEq] at e
    rw [← e.1, ← e.2]
    exact ⟨h1, h2, h3, h4, h5⟩
  | succ m ih =>
    intro j ws h1 h2 h3 h4 h5
    unfold eiL
    by_cases c : pkB b n j = 124
    · rw [if_pos c]
      cases e : alS b n F L (j + 1) with
      | inl f => intro j' ws' e'; exact absurd e' (by simp)
      | inr q =>
        obtain ⟨q1, q2, q3, q4, q5⟩ := alS_ok (b := b) hF (j + 1) q.1 q.2 e
        refine ih q.1 _ (by omega) q2 (by rw [List.length_append, List.length_append, List.length_singleton]; omega) (fun d hd => ?_) (fun w hw => ?_)
        · rw [List.append_assoc, rdC_app _ _ d (d + 1) (h4 d hd), rdC_app _ _ (d + 1) (d + 2) (q4 (d + 1) (by omega)), rdC_c, if_neg (by decide), if_pos (Or.inr rfl), if_pos (by omega)]
          rfl
        · rw [List.mem_append, List.mem_append, List.mem_singleton] at hw
          rcases hw with (hw | hw) | hw
          · exact h5 w hw
          · exact q5 w hw
          · rw [hw]; exact Or.inr (Or.inr (Or.inl rfl))
    · rw [if_neg c]
      intro j' ws' e
      rw [Sum.inr.injEq, Prod.mk.injEq] at e
      rw [← e.1, ← e.2]
      exact ⟨h1, h2, h3, h4, h5⟩
theorem eiS_ok {b : Nat → Int32} {n : Nat} {F : Nat → Nat → gOut} {L : Nat} (hF : ∀ i, okC n i (2 * L + 2) (F L i)) (i : Nat) : okC n i (2 * L) (eiS b n F L i) := by
  unfold eiS
  cases e : alS b n F L i with
  | inl f => intro j' ws' e'; exact absurd e' (by simp)
  | inr q =>
    obtain ⟨q1, q2, q3, q4, q5⟩ := alS_ok (b := b) hF i q.1 q.2 e
    exact eiL_ok hF 100 q.1 q.2 q1 q2 q3 (fun d hd => q4 d (by omega)) q5
theorem piS_ok {b : Nat → Int32} {n T : Nat} : ∀ fu L i, L ≤ 6 → okC n i (2 * L + 2) (piS b n T fu L i) := by
  intro fu
  induction fu with
  | zero => intro L i _ j ws e; exact absurd e (by unfold piS; simp)
  | succ fu ih =>
    intro L i hL
    unfold piS
    by_cases c0 : pkB b n i = 33
    · rw [if_pos c0]
      by_cases c2 : L < 6
      · rw [if_pos c2]
        cases e : piS b n T fu (L + 1) (i + 1) with
        | inl f => intro j' ws' e'; exact absurd e' (by simp)
        | inr q =>
          obtain ⟨q1, q2, q3, q4, q5⟩ := ih (L + 1) (i + 1) (by omega) q.1 q.2 e
          intro j' ws' e'
          dsimp only at e'
          rw [Sum.inr.injEq, Prod.mk.injEq] at e'
          rw [← e'.1, ← e'.2]
          refine ⟨by omega, q2, by rw [List.length_append, List.length_singleton]; omega, fun d hd => ?_, fun w hw => ?_⟩
          · rw [rdC_app _ _ d (d + 1) (q4 d (by omega)), rdC_c, if_pos rfl, if_pos (by omega)]
            rfl
          · rw [List.mem_append, List.mem_singleton] at hw
            rcases hw with hw | hw
            · exact q5 w hw
            · rw [hw]; exact Or.inl rfl
      · rw [if_neg c2]
        intro j' ws' e'; exact absurd e' (by simp)
    · rw [if_neg c0]
      by_cases c1 : pkB b n i = 40
      · rw [if_pos c1]
        by_cases c2 : L < 6
        · rw [if_pos c2]
          cases e : eiS b n (piS b n T fu) (L + 1) (i + 1) with
          | inl f => intro j' ws' e'; exact absurd e' (by simp)
          | inr q =>
            obtain ⟨q1, q2, q3, q4, q5⟩ := eiS_ok (b := b) (F := piS b n T fu) (L := L + 1) (fun i => ih (L + 1) i (by omega)) (i + 1) q.1 q.2 e
            by_cases c3 : pkB b n q.1 = 41
            · intro j' ws' e'
              dsimp only at e'
              rw [if_pos c3, Sum.inr.injEq, Prod.mk.injEq] at e'
              rw [← e'.1, ← e'.2]
              have := pkB_lt (b := b) (n := n) (i := q.1) (by rw [c3]; decide)
              exact ⟨by omega, by omega, by omega, fun d hd => q4 d (by omega), q5⟩
            · intro j' ws' e'
              dsimp only at e'
              rw [if_neg c3] at e'; exact absurd e' (by simp)
        · rw [if_neg c2]
          intro j' ws' e'; exact absurd e' (by simp)
      · rw [if_neg c1]
        by_cases c3 : pkB b n i = 35
        · rw [if_pos c3]
          intro j ws e
          obtain ⟨q1, q2, q3, q4, q5⟩ := hm_ok (b := b) hL j ws e
          exact ⟨by omega, q2, by omega, q4, q5⟩
        · rw [if_neg c3]
          exact wh_ok hL
