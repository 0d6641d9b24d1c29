/-! ===== polynomials of 32 coefficients, by 64 bits ===== -/
def pwr (p : Int64) : Nat → Int64
  | 0 => 1
  | n + 1 => pwr p n * p
theorem pwr_add (p : Int64) (a : Nat) : ∀ b, pwr p (a + b) = pwr p a * pwr p b := by
  intro b
  induction b with
  | zero => show pwr p a = pwr p a * 1; rw [Int64.mul_one]
  | succ b ih =>
    show pwr p (a + b) * p = pwr p a * (pwr p b * p)
    rw [ih, Int64.mul_assoc]
/-- the value at p -/
def pe (p : Int64) (q : Nat → Int64) : Int64 := sm (fun i => q i * pwr p i) 32
theorem sm_mulr (f : Nat → Int64) (c : Int64) : ∀ n, sm (fun i => f i * c) n = sm f n * c := by
  intro n
  induction n with
  | zero => show (0 : Int64) = 0 * c; rw [Int64.zero_mul]
  | succ n ih => rw [sm_s, sm_s, ih, Int64.add_mul]
theorem sm_mull (f : Nat → Int64) (c : Int64) : ∀ n, sm (fun i => c * f i) n = c * sm f n := by
  intro n
  induction n with
  | zero => show (0 : Int64) = c * 0; rw [Int64.mul_zero]
  | succ n ih => rw [sm_s, sm_s, ih, Int64.mul_add]
theorem pe_cg {p : Int64} {q q' : Nat → Int64} (h : ∀ i, i < 32 → q i = q' i) : pe p q = pe p q' := sm_cg (fun i hi => by rw [h i hi])
theorem pe_add (p c : Int64) (q q' : Nat → Int64) : pe p (fun i => q i + c * q' i) = pe p q + c * pe p q' := by
  unfold pe
  rw [← sm_mull, ← sm_add]
  apply sm_cg
  intro i _
  rw [Int64.add_mul, Int64.mul_assoc]
theorem sm_first {f : Nat → Int64} {a : Nat} (h : ∀ i, a ≤ i → f i = 0) {n : Nat} (hn : a ≤ n) : sm f n = sm f a := by
  have := sm_up h (n - a)
  rw [show a + (n - a) = n by omega] at this
  exact this
theorem pe_const (p c : Int64) : pe p (fun i => if i = 0 then c else 0) = c := by
  unfold pe
  rw [sm_first (a := 1) (fun i hi => by dsimp only; rw [if_neg (by omega), Int64.zero_mul]) (by omega)]
  show 0 + (if 0 = 0 then c else 0) * 1 = c
  rw [if_pos rfl, Int64.mul_one, Int64.zero_add]
theorem pe_var (p : Int64) : pe p (fun i => if i = 1 then 1 else 0) = p := by
  unfold pe
  rw [sm_first (a := 2) (fun i hi => by dsimp only; rw [if_neg (by omega), Int64.zero_mul]) (by omega)]
  show 0 + (if 0 = 1 then 1 else 0) * 1 + (if 1 = 1 then 1 else 0) * (1 * p) = p
  rw [if_neg (by decide), if_pos rfl, Int64.zero_mul, Int64.add_zero, Int64.zero_add, Int64.one_mul, Int64.one_mul]
def cnv (q q' : Nat → Int64) (i : Nat) : Int64 := sm (fun j => q j * q' (i - j)) (i + 1)
theorem sm_shift (g : Nat → Int64) (j : Nat) : ∀ m, sm (fun i => if j ≤ i then g (i - j) else 0) (j + m) = sm g m := by
  intro m
  induction m with
  | zero => exact sm_0 (fun i hi => if_neg (by omega))
  | succ m ih =>
    show sm (fun i => if j ≤ i then g (i - j) else 0) (j + m) + (if j ≤ j + m then g (j + m - j) else 0) = sm g m + g m
    rw [ih, if_pos (by omega), show j + m - j = m by omega]
theorem pe_mul (p : Int64) {q q' : Nat → Int64} {d d' : Nat} (h : ∀ i, d < i → q i = 0) (h' : ∀ i, d' < i → q' i = 0) (hd : d + d' ≤ 31) : pe p (cnv q q') = pe p q * pe p q' := by
  unfold pe
  have e1 : sm (fun i => cnv q q' i * pwr p i) 32 = sm (fun i => sm (fun j => if j ≤ i then q j * q' (i - j) * pwr p i else 0) 32) 32 := by
    apply sm_cg
    intro i hi
    unfold cnv
    rw [← sm_mulr, sm_first (f := fun j => (if j ≤ i then q j * q' (i - j) * pwr p i else 0)) (a := i + 1) (fun j hj => if_neg (by omega)) (by omega)]
    apply sm_cg
    intro j hj
    rw [if_pos (by omega)]
  have e1' : sm (fun i => cnv q q' i * pwr p i) 32 = sm (fun i => sm (fun j => if j ≤ i then q j * q' (i - j) * pwr p i else 0) 32) 32 := e1
  rw [e1', sm_swap (fun j i => if j ≤ i then q j * q' (i - j) * pwr p i else 0) 32 32, ← sm_mulr]
  apply sm_cg
  intro j hj
  have e2 : sm (fun i => if j ≤ i then q j * q' (i - j) * pwr p i else 0) 32 = sm (fun k => (q j * pwr p j) * (q' k * pwr p k)) (32 - j) := by
    have := sm_shift (fun k => (q j * pwr p j) * (q' k * pwr p k)) j (32 - j)
    rw [show j + (32 - j) = 32 by omega] at this
    rw [← this]
    apply sm_cg
    intro i hi
    by_cases c : j ≤ i
    · rw [if_pos c, if_pos c]
      have ep : pwr p i = pwr p j * pwr p (i - j) := by rw [← pwr_add, show j + (i - j) = i by omega]
      rw [ep, Int64.mul_assoc, Int64.mul_assoc, ← Int64.mul_assoc (q' (i - j)), Int64.mul_comm (q' (i - j)) (pwr p j), Int64.mul_assoc]
    · rw [if_neg c, if_neg c]
  rw [e2, sm_mull]
  by_cases c : d < j
  · rw [h j c, Int64.zero_mul, Int64.zero_mul, Int64.zero_mul]
  · rw [sm_first (f := fun k => q' k * pwr p k) (a := 32 - j) (fun k hk => by rw [h' k (by omega), Int64.zero_mul]) (n := 32) (by omega)]
/-- from the highest coefficient down -/
def hor (p : Int64) (q : Nat → Int64) : Nat → Int64 → Int64
  | 0, a => a
  | n + 1, a => hor p q n (a * p + q n)
theorem hor_eq (p : Int64) (q : Nat → Int64) : ∀ n a, hor p q n a = a * pwr p n + sm (fun i => q i * pwr p i) n := by
  intro n
  induction n with
  | zero => intro a; show a = a * 1 + 0; rw [Int64.mul_one, Int64.add_zero]
  | succ n ih =>
    intro a
    show hor p q n (a * p + q n) = a * (pwr p n * p) + (sm (fun i => q i * pwr p i) n + q n * pwr p n)
    rw [ih, Int64.add_mul, Int64.mul_assoc, Int64.mul_comm p (pwr p n), Int64.add_assoc, Int64.add_comm (q n * pwr p n)]
theorem hor_pe (p : Int64) {q : Nat → Int64} {n : Nat} (hn : n < 32) (h : ∀ i, n < i → i < 32 → q i = 0) : hor p q (n + 1) 0 = pe p q := by
  rw [hor_eq, Int64.zero_mul, Int64.zero_add]
  unfold pe
  have : sm (fun i => q i * pwr p i) 32 = sm (fun i => if i < 32 then q i * pwr p i else 0) 32 := sm_cg (fun i hi => by rw [if_pos hi])
  rw [this, sm_first (f := fun i => if i < 32 then q i * pwr p i else 0) (a := n + 1) (n := 32) (fun i hi => by
    by_cases c : i < 32
    · rw [if_pos c, h i (by omega) c, Int64.zero_mul]
    · rw [if_neg c]) (by omega)]
  apply sm_cg
  intro i hi
  rw [if_pos (by omega)]
/-! the words of an act: numbers that wait, polynomials that wait -/
def axw (v : Int32 → Int64) (c : Int32) (st : List Int64) : List Int64 :=
  if c = -6 then (match st with | a :: b :: r => (b + a) :: r | _ => [])
  else if c = -7 then (match st with | a :: b :: r => (b - a) :: r | _ => [])
  else if c = -8 then (match st with | a :: b :: r => (b * a) :: r | _ => [])
  else v c :: st
def ax (v : Int32 → Int64) (f : Nat → Int32) (i : Nat) : Nat → List Int64
  | 0 => []
  | n + 1 => axw v (f (i + n)) (ax v f i n)
abbrev gPl : Type := (Nat → Int64) × Nat
def pxw (v : Int32 → Int64) (c : Int32) (st : List gPl) : List gPl :=
  if c = -6 then (match st with | a :: b :: r => (fun i => b.1 i + 1 * a.1 i, a.2 + b.2) :: r | _ => [])
  else if c = -7 then (match st with | a :: b :: r => (fun i => b.1 i + (-1) * a.1 i, a.2 + b.2) :: r | _ => [])
  else if c = -8 then (match st with | a :: b :: r => (cnv b.1 a.1, a.2 + b.2) :: r | _ => [])
  else if c = -1 then ((fun i => if i = 1 then 1 else 0, 1)) :: st
  else ((fun i => if i = 0 then v c else 0, 0)) :: st
def px (v : Int32 → Int64) (f : Nat → Int32) (i : Nat) : Nat → List gPl
  | 0 => []
  | n + 1 => pxw v (f (i + n)) (px v f i n)
theorem gxd_pre {f : Nat → Int32} {i n d : Nat} (h : gxd f i (n + 1) = some d) : ∃ d', gxd f i n = some d' := by
  unfold gxd at h
  cases e : gxd f i n with
  | none => rw [e] at h; exact absurd h (by simp)
  | some d' => exact ⟨d', rfl⟩
theorem gxd_le {f : Nat → Int32} {i : Nat} : ∀ {n d : Nat}, gxd f i n = some d → ∀ m, m ≤ n → ∃ d', gxd f i m = some d' := by
  intro n
  induction n with
  | zero => intro d h m hm; rw [show m = 0 by omega]; exact ⟨d, h⟩
  | succ n ih =>
    intro d h m hm
    by_cases e : m = n + 1
    · rw [e]; exact ⟨d, h⟩
    · obtain ⟨d', h'⟩ := gxd_pre h
      exact ih h' m (by omega)
theorem gxp_le {f : Nat → Int32} {i : Nat} : ∀ {n m : Nat}, m ≤ n → gxp f i m ≤ gxp f i n := by
  intro n
  induction n with
  | zero => intro m hm; rw [show m = 0 by omega]; exact Nat.le_refl _
  | succ n ih =>
    intro m hm
    by_cases e : m = n + 1
    · rw [e]; exact Nat.le_refl _
    · have := ih (m := m) (by omega)
      show _ ≤ gxp f i n + _
      omega
def dsum : List gPl → Nat
  | [] => 0
  | a :: r => a.2 + dsum r
theorem gxd_step {f : Nat → Int32} {i n d : Nat} (h : gxd f i (n + 1) = some d) {d' : Nat} (e : gxd f i n = some d') : ((f (i + n) = -6 ∨ f (i + n) = -7 ∨ f (i + n) = -8) ∧ 2 ≤ d' ∧ d = d' - 1) ∨ (¬ f (i + n) = -6 ∧ ¬ f (i + n) = -7 ∧ ¬ f (i + n) = -8 ∧ d' < 16 ∧ d = d' + 1) := by
  unfold gxd at h
  rw [e] at h
  simp only [Option.bind_some] at h
  by_cases c : f (i + n) = -6 ∨ f (i + n) = -7 ∨ f (i + n) = -8
  · rw [if_pos c] at h
    by_cases q : 2 ≤ d'
    · rw [if_pos q, Option.some_inj] at h
      exact Or.inl ⟨c, q, h.symm⟩
    · rw [if_neg q] at h; exact absurd h (by simp)
  · rw [if_neg c] at h
    by_cases q : d' < 16
    · rw [if_pos q, Option.some_inj] at h
      exact Or.inr ⟨fun z => c (Or.inl z), fun z => c (Or.inr (Or.inl z)), fun z => c (Or.inr (Or.inr z)), q, h.symm⟩
    · rw [if_neg q] at h; exact absurd h (by simp)
theorem neg1_mul (a b : Int64) : b + (-1) * a = b - a := by
  rw [Int64.neg_mul, Int64.one_mul, Int64.sub_eq_add_neg]
def dok (ps : List gPl) : Prop := ∀ q, q ∈ ps → ∀ i, q.2 < i → q.1 i = 0
theorem dsum_mem : ∀ {ps : List gPl} {q : gPl}, q ∈ ps → q.2 ≤ dsum ps := by
  intro ps
  induction ps with
  | nil => intro q h; exact absurd h (by simp)
  | cons a r ih =>
    intro q h
    unfold dsum
    rcases List.mem_cons.mp h with e | e
    · rw [e]; omega
    · have := ih e; omega
theorem dok_tl {a : gPl} {r : List gPl} (h : dok (a :: r)) : dok r := fun q hq => h q (List.mem_cons_of_mem _ hq)
theorem dok_hd {a : gPl} {r : List gPl} (h : dok (a :: r)) : ∀ i, a.2 < i → a.1 i = 0 := h a List.mem_cons_self
theorem dok_cs {a : gPl} {r : List gPl} (h : ∀ i, a.2 < i → a.1 i = 0) (h' : dok r) : dok (a :: r) := fun q hq => by
  rcases List.mem_cons.mp hq with e | e
  · rw [e]; exact h
  · exact h' q e
theorem cnv_0 {q q' : Nat → Int64} {d d' i : Nat} (h : ∀ i, d < i → q i = 0) (h' : ∀ i, d' < i → q' i = 0) (hi : d + d' < i) : cnv q q' i = 0 := by
  unfold cnv
  apply sm_0
  intro j hj
  by_cases c : d < j
  · rw [h j c, Int64.zero_mul]
  · rw [h' (i - j) (by omega), Int64.mul_zero]
theorem pxw_ok {v : Int64 → Int32 → Int64} (hv : ∀ p p' c, ¬ c = -1 → v p c = v p' c) (hp : ∀ p, v p (-1) = p) (p0 : Int64) {c : Int32} {st : List gPl} (hd : dok st) (hs : dsum st + (if c = -1 then 1 else 0) ≤ 31) (hc : ((c = -6 ∨ c = -7 ∨ c = -8) ∧ 2 ≤ st.length) ∨ (¬ c = -6 ∧ ¬ c = -7 ∧ ¬ c = -8)) : (((c = -6 ∨ c = -7 ∨ c = -8) → (pxw (v p0) c st).length = st.length - 1) ∧ (¬ (c = -6 ∨ c = -7 ∨ c = -8) → (pxw (v p0) c st).length = st.length + 1)) ∧ dsum (pxw (v p0) c st) = dsum st + (if c = -1 then 1 else 0) ∧ dok (pxw (v p0) c st) ∧ ∀ p, (pxw (v p0) c st).map (fun q => pe p q.1) = axw (v p) c (st.map (fun q => pe p q.1)) := by
  rcases hc with ⟨hc, h2⟩ | ⟨h6, h7, h8⟩
  · match st, h2 with
    | a :: b :: r, _ =>
      have n1 : ¬ c = -1 := by rcases hc with h | h | h <;> rw [h] <;> decide
      rw [if_neg n1, Nat.add_zero] at hs ⊢
      have hs' : a.2 + (b.2 + dsum r) ≤ 31 := hs
      have da := dok_hd hd
      have db := dok_hd (dok_tl hd)
      have dr := dok_tl (dok_tl hd)
      unfold pxw axw
      by_cases c6 : c = -6
      · simp only [if_pos c6, List.map_cons, List.length_cons]
        refine ⟨⟨fun _ => by omega, fun q => absurd (Or.inl c6) q⟩, ?_, dok_cs (fun i hi => ?_) dr, fun p => ?_⟩
        · show a.2 + b.2 + dsum r = a.2 + (b.2 + dsum r)
          omega
        · dsimp only at hi ⊢
          rw [da i (by omega), db i (by omega), Int64.mul_zero, Int64.add_zero]
        · rw [pe_add, Int64.one_mul]
      · by_cases c7 : c = -7
        · simp only [if_neg c6, if_pos c7, List.map_cons, List.length_cons]
          refine ⟨⟨fun _ => by omega, fun q => absurd (Or.inr (Or.inl c7)) q⟩, ?_, dok_cs (fun i hi => ?_) dr, fun p => ?_⟩
          · show a.2 + b.2 + dsum r = a.2 + (b.2 + dsum r)
            omega
          · dsimp only at hi ⊢
            rw [da i (by omega), db i (by omega), Int64.mul_zero, Int64.add_zero]
          · rw [pe_add, neg1_mul]
        · have c8 : c = -8 := by rcases hc with h | h | h; exact absurd h c6; exact absurd h c7; exact h
          simp only [if_neg c6, if_neg c7, if_pos c8, List.map_cons, List.length_cons]
          refine ⟨⟨fun _ => by omega, fun q => absurd (Or.inr (Or.inr c8)) q⟩, ?_, dok_cs (fun i hi => ?_) dr, fun p => ?_⟩
          · show a.2 + b.2 + dsum r = a.2 + (b.2 + dsum r)
            omega
          · dsimp only at hi ⊢
            exact cnv_0 db da (by omega)
          · rw [pe_mul p db da (by omega)]
  · have nc : ¬ (c = -6 ∨ c = -7 ∨ c = -8) := fun q => by rcases q with h | h | h; exact h6 h; exact h7 h; exact h8 h
    unfold pxw axw
    simp only [if_neg h6, if_neg h7, if_neg h8]
    by_cases c1 : c = -1
    · simp only [if_pos c1]
      refine ⟨⟨fun q => absurd q nc, fun _ => rfl⟩, ?_, dok_cs (fun i hi => ?_) hd, fun p => ?_⟩
      · show 1 + dsum st = dsum st + 1
        omega
      · dsimp only at hi ⊢
        rw [if_neg (by omega)]
      · rw [List.map_cons, pe_var, c1, hp]
    · simp only [if_neg c1]
      refine ⟨⟨fun q => absurd q nc, fun _ => rfl⟩, ?_, dok_cs (fun i hi => ?_) hd, fun p => ?_⟩
      · show 0 + dsum st = dsum st + 0
        omega
      · dsimp only at hi ⊢
        rw [if_neg (by omega)]
      · rw [List.map_cons, pe_const, hv p0 p c c1]
theorem px_ok {v : Int64 → Int32 → Int64} (hv : ∀ p p' c, ¬ c = -1 → v p c = v p' c) (hp : ∀ p, v p (-1) = p) (p0 : Int64) {f : Nat → Int32} {i : Nat} : ∀ {n d : Nat}, gxd f i n = some d → gxp f i n ≤ 31 → (px (v p0) f i n).length = d ∧ d ≤ 16 ∧ dsum (px (v p0) f i n) = gxp f i n ∧ dok (px (v p0) f i n) ∧ ∀ p, (px (v p0) f i n).map (fun q => pe p q.1) = ax (v p) f i n := by
  intro n
  induction n with
  | zero =>
    intro d h _
    unfold gxd at h
    rw [Option.some_inj] at h
    refine ⟨by rw [← h]; rfl, by omega, rfl, fun q hq => absurd hq (by unfold px; simp), fun p => rfl⟩
  | succ n ih =>
    intro d h hg
    obtain ⟨d', e⟩ := gxd_pre h
    have hg' : gxp f i (n + 1) = gxp f i n + if f (i + n) = -1 then 1 else 0 := rfl
    obtain ⟨i1, i2, i3, i4, i5⟩ := ih e (by omega)
    have ea : ∀ p, ax (v p) f i (n + 1) = axw (v p) (f (i + n)) (ax (v p) f i n) := fun p => rfl
    have ep : px (v p0) f i (n + 1) = pxw (v p0) (f (i + n)) (px (v p0) f i n) := rfl
    have stp := gxd_step h e
    have ok := pxw_ok hv hp p0 (c := f (i + n)) (st := px (v p0) f i n) i4 (by rw [i3, ← hg']; exact hg) (by
      rcases stp with ⟨hc, h2, -⟩ | ⟨h6, h7, h8, -, -⟩
      · exact Or.inl ⟨hc, by omega⟩
      · exact Or.inr ⟨h6, h7, h8⟩)
    obtain ⟨⟨k1, k1'⟩, k2, k3, k4⟩ := ok
    refine ⟨?_, ?_, by rw [ep, k2, i3, hg'], by rw [ep]; exact k3, fun p => by rw [ep, ea, ← i5]; exact k4 p⟩
    · rw [ep]
      rcases stp with ⟨hc, h2, h3⟩ | ⟨h6, h7, h8, -, h3⟩
      · rw [k1 hc]; omega
      · rw [k1' (fun q => by rcases q with h | h | h; exact h6 h; exact h7 h; exact h8 h)]; omega
    · rcases stp with ⟨hc, h2, h3⟩ | ⟨h6, h7, h8, h9, h3⟩ <;> omega
