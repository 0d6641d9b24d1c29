/-! ===== an act's text: what it is, by recursive descent ===== -/
def pkB (b : Nat → Int32) (n i : Nat) : Int32 := if i < n then b i else -1
abbrev gOut : Type := (Nat × Nat) ⊕ (Nat × List Int32)
def isDg (c : Int32) : Bool := decide (48 ≤ c.toInt ∧ c.toInt ≤ 57)
/-- up to m digits from i on -/
def dgS (b : Nat → Int32) (n : Nat) : Nat → Nat → Nat → Nat × Nat
  | 0, i, v => (i, v)
  | m + 1, i, v => if isDg (pkB b n i) then dgS b n m (i + 1) (10 * v + ((pkB b n i).toNatClampNeg - 48)) else (i, v)
def nbS (b : Nat → Int32) (n i : Nat) : gOut := if isDg (pkB b n (dgS b n 6 i 0).1) then .inl (2, (dgS b n 6 i 0).1) else .inr ((dgS b n 6 i 0).1, [nI (dgS b n 6 i 0).2])
def wdS (c : Int32) : Int32 := if c = 97 then -3 else if c = 112 then -1 else if c = 116 then -5 else if c = 118 then -4 else if c = 119 then -2 else 0
def prL (b : Nat → Int32) (n : Nat) (F : Nat → Nat → gOut) (L : Nat) : Nat → Nat → List Int32 → gOut
  | 0, j, ws => .inr (j, ws)
  | m + 1, j, ws => if pkB b n j = 42 then (match F L (j + 1) with | .inl f => .inl f | .inr q => prL b n F L m q.1 (ws ++ q.2 ++ [-8])) else .inr (j, ws)
def prS (b : Nat → Int32) (n : Nat) (F : Nat → Nat → gOut) (L i : Nat) : gOut := match F L i with | .inl f => .inl f | .inr q => prL b n F L 100 q.1 q.2
def smW (c : Int32) : Int32 := if c = 43 then -6 else if c = 45 then -7 else 0
def suL (b : Nat → Int32) (n : Nat) (F : Nat → Nat → gOut) (L : Nat) : Nat → Nat → List Int32 → gOut
  | 0, j, ws => .inr (j, ws)
  | m + 1, j, ws => if smW (pkB b n j) = 0 then .inr (j, ws) else (match prS b n F L (j + 1) with | .inl f => .inl f | .inr q => suL b n F L m q.1 (ws ++ q.2 ++ [smW (pkB b n j)]))
def suS (b : Nat → Int32) (n : Nat) (F : Nat → Nat → gOut) (L i : Nat) : gOut := match prS b n F L i with | .inl f => .inl f | .inr q => suL b n F L 100 q.1 q.2
def faS (b : Nat → Int32) (n : Nat) : Nat → Nat → Nat → gOut
  | 0, _, _ => .inl (0, 0)
  | fu + 1, L, i => if pkB b n i = 40 then (if L < 6 then (match suS b n (faS b n fu) (L + 1) (i + 1) with | .inl f => .inl f | .inr q => if pkB b n q.1 = 41 then .inr (q.1 + 1, q.2) else .inl (1, q.1)) else .inl (5, i)) else if isDg (pkB b n i) then nbS b n i else if wdS (pkB b n i) = 0 then .inl (1, i) else .inr (i + 1, [wdS (pkB b n i)])
/-- how many numbers wait behind words -/
def rdW : Nat → List Int32 → Option Nat
  | d, [] => some d
  | d, w :: r => if w = -6 ∨ w = -7 ∨ w = -8 then (if 2 ≤ d then rdW (d - 1) r else none) else if d < 16 then rdW (d + 1) r else none
theorem rdW_c (d : Nat) (w : Int32) (r : List Int32) : rdW d (w :: r) = if w = -6 ∨ w = -7 ∨ w = -8 then (if 2 ≤ d then rdW (d - 1) r else none) else if d < 16 then rdW (d + 1) r else none := rfl
theorem rdW_app : ∀ (u v : List Int32) (d e : Nat), rdW d u = some e → rdW d (u ++ v) = rdW e v := by
  intro u
  induction u with
  | nil => intro v d e h; unfold rdW at h; rw [Option.some_inj] at h; rw [List.nil_append, h]
  | cons w r ih =>
    intro v d e h
    rw [List.cons_append]
    rw [rdW_c] at h ⊢
    by_cases c : w = -6 ∨ w = -7 ∨ w = -8
    · rw [if_pos c] at h ⊢
      by_cases q : 2 ≤ d
      · rw [if_pos q] at h ⊢; exact ih v _ e h
      · rw [if_neg q] at h; exact absurd h (by simp)
    · rw [if_neg c] at h ⊢
      by_cases q : d < 16
      · rw [if_pos q] at h ⊢; exact ih v _ e h
      · rw [if_neg q] at h; exact absurd h (by simp)
/-- good words: of range, and as many as bytes -/
def okW (n i d0 : Nat) (o : gOut) : Prop := ∀ j ws, o = .inr (j, ws) → i < j ∧ j ≤ n ∧ ws.length ≤ j - i ∧ (∀ d, d ≤ d0 → rdW d ws = some (d + 1)) ∧ ∀ w, w ∈ ws → -8 ≤ w.toInt
theorem pkB_lt {b : Nat → Int32} {n i : Nat} (h : ¬ pkB b n i = -1) : i < n := by
  unfold pkB at h
  by_cases c : i < n
  · exact c
  · rw [if_neg c] at h; exact absurd rfl h
theorem isDg_lt {b : Nat → Int32} {n i : Nat} (h : isDg (pkB b n i) = true) : i < n := pkB_lt (fun q => by rw [q] at h; exact absurd h (by decide))
theorem smW_c {c : Int32} (h : ¬ smW c = 0) : (c = 43 ∧ smW c = -6) ∨ (c = 45 ∧ smW c = -7) := by
  unfold smW at h ⊢
  by_cases c1 : c = 43
  · rw [if_pos c1] at h ⊢; exact Or.inl ⟨c1, rfl⟩
  · rw [if_neg c1] at h ⊢
    by_cases c2 : c = 45
    · rw [if_pos c2] at h ⊢; exact Or.inr ⟨c2, rfl⟩
    · rw [if_neg c2] at h; exact absurd rfl h
theorem dgS_le {b : Nat → Int32} {n : Nat} : ∀ m i v, i ≤ (dgS b n m i v).1 ∧ (dgS b n m i v).1 ≤ i + m ∧ (i ≤ n → (dgS b n m i v).1 ≤ n) ∧ (v < 10 ^ (6 - m) → m ≤ 6 → (dgS b n m i v).2 < 1000000) := by
  intro m
  induction m with
  | zero =>
    intro i v
    unfold dgS
    refine ⟨by omega, by omega, fun h => h, fun h _ => ?_⟩
    have : 10 ^ (6 - 0) = 1000000 := by decide
    dsimp only
    omega
  | succ m ih =>
    intro i v
    unfold dgS
    by_cases c : isDg (pkB b n i) = true
    · rw [if_pos c]
      obtain ⟨h1, h2, h3, h4⟩ := ih (i + 1) (10 * v + ((pkB b n i).toNatClampNeg - 48))
      have hlt := isDg_lt c
      refine ⟨by omega, by omega, fun _ => h3 (by omega), fun hv hm => h4 ?_ (by omega)⟩
      have e : 10 ^ (6 - m) = 10 * 10 ^ (6 - (m + 1)) := by rw [show 6 - m = (6 - (m + 1)) + 1 by omega, Nat.pow_succ, Nat.mul_comm]
      unfold isDg at c
      rw [decide_eq_true_eq] at c
      obtain ⟨z, -, ez, tz⟩ := i_of (x := pkB b n i) (by omega)
      rw [ez, nI_clamp (by omega), e]
      omega
    · rw [if_neg c]
      refine ⟨by omega, by dsimp only; omega, fun h => h, fun h hm => ?_⟩
      dsimp only
      have : 10 ^ (6 - (m + 1)) ≤ 10 ^ 6 := Nat.pow_le_pow_right (by omega) (by omega)
      have e6 : 10 ^ 6 = 1000000 := by decide
      omega
theorem nb_ok {b : Nat → Int32} {n i L : Nat} (hL : L ≤ 6) (h : isDg (pkB b n i) = true) : okW n i (2 * L + 2) (nbS b n i) := by
  intro j ws e
  unfold nbS at e
  obtain ⟨h1, h2, h3, h4⟩ := dgS_le (b := b) (n := n) 6 i 0
  have hi := isDg_lt h
  by_cases c : isDg (pkB b n (dgS b n 6 i 0).1) = true
  · rw [if_pos c] at e; exact absurd e (by simp)
  · rw [if_neg c, Sum.inr.injEq, Prod.mk.injEq] at e
    have hne : ¬ (dgS b n 6 i 0).1 = i := fun q => by rw [q] at c; exact c h
    have hv := h4 (by decide) (by omega)
    rw [← e.1, ← e.2]
    refine ⟨by omega, h3 (by omega), by rw [List.length_singleton]; omega, fun d hd => ?_, fun w hw => ?_⟩
    · unfold rdW
      have n0 : ∀ z : Int32, z.toInt < 0 → ¬ nI (dgS b n 6 i 0).2 = z := fun z hz q => by rw [← q, nI_toInt (by omega)] at hz; omega
      rw [if_neg (fun q => by rcases q with q | q | q; exact n0 _ (by decide) q; exact n0 _ (by decide) q; exact n0 _ (by decide) q), if_pos (by omega)]
      rfl
    · rw [List.mem_singleton] at hw
      rw [hw, nI_toInt (by omega)]
      omega
theorem prL_ok {b : Nat → Int32} {n : Nat} {F : Nat → Nat → gOut} {L : Nat} (hF : ∀ i, okW n i (2 * L + 2) (F L i)) {i0 : Nat} : ∀ m j ws, i0 < j → j ≤ n → ws.length ≤ j - i0 → (∀ d, d ≤ 2 * L + 1 → rdW d ws = some (d + 1)) → (∀ w, w ∈ ws → -8 ≤ w.toInt) → okW n i0 (2 * L + 1) (prL b n F L m j ws) := by
  intro m
  induction m with
  | zero =>
    intro j ws h1 h2 h3 h4 h5 j' ws' e
    unfold prL at e
    rw [Sum.inr.injEq, Prod.mk.injEq] at e
    rw [← e.1, ← e.2]
    exact ⟨h1, h2, h3, h4, h5⟩
  | succ m ih =>
    intro j ws h1 h2 h3 h4 h5
    unfold prL
    by_cases c : pkB b n j = 42
    · rw [if_pos c]
      cases e : F L (j + 1) with
      | inl f => intro j' ws' e'; exact absurd e' (by simp)
      | inr q =>
        obtain ⟨q1, q2, q3, q4, q5⟩ := hF (j + 1) q.1 q.2 e
        refine ih q.1 _ (by omega) q2 (by rw [List.length_append, List.length_append, List.length_singleton]; omega) (fun d hd => ?_) (fun w hw => ?_)
        · rw [List.append_assoc, rdW_app _ _ d (d + 1) (h4 d hd), rdW_app _ _ (d + 1) (d + 2) (q4 (d + 1) (by omega))]
          unfold rdW
          rw [if_pos (Or.inr (Or.inr rfl)), if_pos (by omega)]
          rfl
        · rw [List.mem_append, List.mem_append, List.mem_singleton] at hw
          rcases hw with (hw | hw) | hw
          · exact h5 w hw
          · exact q5 w hw
          · rw [hw]; decide
    · rw [if_neg c]
      intro j' ws' e
      rw [Sum.inr.injEq, Prod.mk.injEq] at e
      rw [← e.1, ← e.2]
      exact ⟨h1, h2, h3, h4, h5⟩
theorem prS_ok {b : Nat → Int32} {n : Nat} {F : Nat → Nat → gOut} {L : Nat} (hF : ∀ i, okW n i (2 * L + 2) (F L i)) (i : Nat) : okW n i (2 * L + 1) (prS b n F L i) := by
  unfold prS
  cases e : F L i with
  | inl f => intro j' ws' e'; exact absurd e' (by simp)
  | inr q =>
    obtain ⟨q1, q2, q3, q4, q5⟩ := hF i q.1 q.2 e
    exact prL_ok hF 100 q.1 q.2 q1 q2 q3 (fun d hd => q4 d (by omega)) q5
theorem suL_ok {b : Nat → Int32} {n : Nat} {F : Nat → Nat → gOut} {L : Nat} (hF : ∀ i, okW n i (2 * L + 2) (F L i)) {i0 : Nat} : ∀ m j ws, i0 < j → j ≤ n → ws.length ≤ j - i0 → (∀ d, d ≤ 2 * L → rdW d ws = some (d + 1)) → (∀ w, w ∈ ws → -8 ≤ w.toInt) → okW n i0 (2 * L) (suL b n F L m j ws) := by
  intro m
  induction m with
  | zero =>
    intro j ws h1 h2 h3 h4 h5 j' ws' e
    unfold suL at e
    rw [Sum.inr.injEq, Prod.mk.injEq] at e
    rw [← e.1, ← e.2]
    exact ⟨h1, h2, h3, h4, h5⟩
  | succ m ih =>
    intro j ws h1 h2 h3 h4 h5
    unfold suL
    by_cases c : smW (pkB b n j) = 0
    · rw [if_pos c]
      intro j' ws' e
      rw [Sum.inr.injEq, Prod.mk.injEq] at e
      rw [← e.1, ← e.2]
      exact ⟨h1, h2, h3, h4, h5⟩
    · rw [if_neg c]
      cases e : prS b n F L (j + 1) with
      | inl f => intro j' ws' e'; exact absurd e' (by simp)
      | inr q =>
        obtain ⟨q1, q2, q3, q4, q5⟩ := prS_ok (b := b) hF (j + 1) q.1 q.2 e
        refine ih q.1 _ (by omega) q2 (by rw [List.length_append, List.length_append, List.length_singleton]; omega) (fun d hd => ?_) (fun w hw => ?_)
        · rw [List.append_assoc, rdW_app _ _ d (d + 1) (h4 d hd), rdW_app _ _ (d + 1) (d + 2) (q4 (d + 1) (by omega))]
          unfold rdW
          rcases smW_c c with ⟨-, z⟩ | ⟨-, z⟩
          · rw [z, if_pos (Or.inl rfl), if_pos (by omega)]; rfl
          · rw [z, if_pos (Or.inr (Or.inl rfl)), if_pos (by omega)]; rfl
        · rw [List.mem_append, List.mem_append, List.mem_singleton] at hw
          rcases hw with (hw | hw) | hw
          · exact h5 w hw
          · exact q5 w hw
          · rw [hw]
            rcases smW_c c with ⟨-, z⟩ | ⟨-, z⟩ <;> rw [z] <;> decide
theorem suS_ok {b : Nat → Int32} {n : Nat} {F : Nat → Nat → gOut} {L : Nat} (hF : ∀ i, okW n i (2 * L + 2) (F L i)) (i : Nat) : okW n i (2 * L) (suS b n F L i) := by
  unfold suS
  cases e : prS b n F L i with
  | inl f => intro j' ws' e'; exact absurd e' (by simp)
  | inr q =>
    obtain ⟨q1, q2, q3, q4, q5⟩ := prS_ok (b := b) hF i q.1 q.2 e
    exact suL_ok hF 100 q.1 q.2 q1 q2 q3 (fun d hd => q4 d (by omega)) q5
theorem wdS_r {c : Int32} (h : ¬ wdS c = 0) : -5 ≤ (wdS c).toInt ∧ (wdS c).toInt < 0 ∧ ¬ wdS c = -6 ∧ ¬ wdS c = -7 ∧ ¬ wdS c = -8 ∧ 0 < c.toInt := by
  unfold wdS at h ⊢
  by_cases c1 : c = 97
  · rw [if_pos c1, c1]; decide
  · rw [if_neg c1] at h ⊢
    by_cases c2 : c = 112
    · rw [if_pos c2, c2]; decide
    · rw [if_neg c2] at h ⊢
      by_cases c3 : c = 116
      · rw [if_pos c3, c3]; decide
      · rw [if_neg c3] at h ⊢
        by_cases c4 : c = 118
        · rw [if_pos c4, c4]; decide
        · rw [if_neg c4] at h ⊢
          by_cases c5 : c = 119
          · rw [if_pos c5, c5]; decide
          · rw [if_neg c5] at h; exact absurd rfl h
theorem faS_ok {b : Nat → Int32} {n : Nat} : ∀ fu L i, L ≤ 6 → okW n i (2 * L + 2) (faS b n fu L i) := by
  intro fu
  induction fu with
  | zero => intro L i _ j ws e; exact absurd e (by unfold faS; simp)
  | succ fu ih =>
    intro L i hL
    unfold faS
    by_cases c1 : pkB b n i = 40
    · rw [if_pos c1]
      by_cases c2 : L < 6
      · rw [if_pos c2]
        cases e : suS b n (faS b n fu) (L + 1) (i + 1) with
        | inl f => intro j' ws' e'; exact absurd e' (by simp)
        | inr q =>
          obtain ⟨q1, q2, q3, q4, q5⟩ := suS_ok (b := b) (F := faS b n fu) (L := L + 1) (fun i => ih (L + 1) i (by omega)) (i + 1) q.1 q.2 e
          by_cases c3 : pkB b n q.1 = 41
          · intro j' ws' e'
            dsimp only at e'
            rw [if_pos c3, Sum.inr.injEq, Prod.mk.injEq] at e'
            rw [← e'.1, ← e'.2]
            have := pkB_lt (b := b) (n := n) (i := q.1) (by rw [c3]; decide)
            exact ⟨by omega, by omega, by omega, fun d hd => q4 d (by omega), q5⟩
          · intro j' ws' e'
            dsimp only at e'
            rw [if_neg c3] at e'; exact absurd e' (by simp)
      · rw [if_neg c2]
        intro j' ws' e'; exact absurd e' (by simp)
    · rw [if_neg c1]
      by_cases c2 : isDg (pkB b n i) = true
      · rw [if_pos c2]; exact nb_ok hL c2
      · rw [if_neg c2]
        by_cases c3 : wdS (pkB b n i) = 0
        · rw [if_pos c3]
          intro j' ws' e'; exact absurd e' (by simp)
        · rw [if_neg c3]
          intro j' ws' e'
          rw [Sum.inr.injEq, Prod.mk.injEq] at e'
          rw [← e'.1, ← e'.2]
          obtain ⟨z1, z2, z6, z7, z8, z0⟩ := wdS_r c3
          have hi := pkB_lt (b := b) (n := n) (i := i) (fun q => by rw [q] at z0; exact absurd z0 (by decide))
          refine ⟨by omega, by omega, by rw [List.length_singleton]; omega, fun d hd => ?_, fun w hw => ?_⟩
          · unfold rdW
            rw [if_neg (fun q => by rcases q with q | q | q; exact z6 q; exact z7 q; exact z8 q), if_pos (by omega)]
            rfl
          · rw [List.mem_singleton] at hw
            rw [hw]; omega
