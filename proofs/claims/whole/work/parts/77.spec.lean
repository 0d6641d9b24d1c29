/-! ===== what falls: the words of conditions, the shares ===== -/
theorem nmS_lt (I : gIt) (P : Nat) (t : Int32) (s : Nat) : nmS I P t s < 65536 := gM_16 _
theorem gB_v {α β : Type} (v : α) (f : α → Option β) : gB (some v) f = f v := rfl
theorem EE9 : EE_9 gInv := by
  intro I J w x1 x2 hI
  obtain ⟨P, ns, nS, nC, nP, nT, hs, hr⟩ := id hI
  obtain ⟨⟨y1, y2, y3⟩, ⟨b1, b1', b1''⟩, ⟨b2, b2', b2''⟩, -⟩ := id hs
  have yr : p_X12_isYear x2 = some (if 1700 ≤ x2.toInt ∧ x2.toInt ≤ 1999 then 1 else 0) := by
    unfold p_X12_isYear
    rw [x12_lies, i32_toInt64]
    show gck (gbo _) _ = _
    rw [gck_t (gbo_ite _)]
    rfl
  by_cases c1 : 0 ≤ x1.toInt ∧ x1.toInt < ns
  · obtain ⟨s, -, rfl, ts⟩ := i_of c1.1
    have hs10 : s < 10 := by omega
    by_cases c2 : 1700 ≤ x2.toInt ∧ x2.toInt ≤ 1999
    · obtain ⟨r, e, l⟩ := x5_learn b1'' b1 hr.1 x2
      have hk := lrn_keep l
      have hset := hr.2.2.2.2.2.2.2.1 s (by omega)
      refine ⟨(nI (gpc 16 (nmS I P x2 s)), r), ?_, nI (gpc 16 (nmS I P x2 s)), ?_, rfl, gInv_k hk hI⟩
      · unfold p_X11_named
        rw [x11_settlementOf b2'' b2, if_pos c1, nI_clamp (by omega)]
        show gB (p_X11_isYear x2) _ = _
        unfold p_X11_isYear
        simp only [Int32.lt_iff_toInt_lt, Int32.reduceToInt]
        rw [if_neg (by omega), if_neg (by omega)]
        show gB (p_X5_learn I x2) _ = _
        rw [e]
        show gB (p_X5_namedIn r (14 + 6 * s)) _ = _
        rw [x5_namedIn b1'' (lrn_knw l) hs10 hset]
        rw [gB_v, bitCount (nmS_lt _ _ _ _), gB_v]
      · have f3 : r 149 3 = nI P := by rw [hk.2.2.2.2.2.1]; exact b1'
        have f4 : r 149 4 = nI ns := by rw [hk.2.2.2.2.2.2.1]; exact b2'
        have hp : ∀ o, o < P → iPer1 r o := fun o ho => by rw [iPer1_k hk]; exact hr.1 o ho
        have hset' : iSet1 r P s := by rw [iSet1_k hk P s hs10]; exact hset
        have en : nmS r P x2 s = nmS I P x2 s := by
          unfold nmS
          apply gM_cg
          intro o ho
          unfold NMb thr chd thr
          rw [gk_set hk hs10, hk.1 3 (by unfold gco; omega), hk.1 4 (by unfold gco; omega)]
        show p_X12_named r (nI s) x2 = _
        unfold p_X12_named
        rw [gB_y _ (x12_isSettlement r b2'' f4 _) c1, if_neg (by decide), gB_y _ yr c2, if_neg (by decide), x12_namedSet b1'' f3 hp x2 hs10 hset', en]
        rw [gB_v, x12_sizeOf (nmS_lt _ _ _ _), gB_v]
    · refine ⟨(-1, I), ?_, -1, ?_, rfl, hI⟩
      · unfold p_X11_named
        rw [x11_settlementOf b2'' b2, if_pos c1]
        show gB (p_X11_isYear x2) _ = _
        unfold p_X11_isYear
        simp only [Int32.lt_iff_toInt_lt, Int32.reduceToInt]
        by_cases d : x2.toInt < 1700
        · rw [if_pos d]; rfl
        · rw [if_neg d, if_pos (by omega)]; rfl
      · show p_X12_named I (nI s) x2 = _
        unfold p_X12_named
        rw [gB_y _ (x12_isSettlement I b2'' b2' _) c1, if_neg (by decide), gB_n _ yr c2, if_pos rfl]
  · refine ⟨(-1, I), ?_, -1, ?_, rfl, hI⟩
    · unfold p_X11_named
      rw [x11_settlementOf b2'' b2, if_neg c1]
      rfl
    · show p_X12_named I x1 x2 = _
      unfold p_X12_named
      rw [gB_n _ (x12_isSettlement I b2'' b2' _) c1, if_pos rfl]
def cs (I : gIt) (P A q : Nat) : Nat := gM (chd I P 1999 q) 16 &&& A
def tru (I : gIt) (P A : Nat) (c : Int32) : Bool := if c < 16 then A.testBit c.toNatClampNeg else if c < 32 then !decide (cs I P A (c - 16).toNatClampNeg = 0) else if c < 200 then decide (nI (gpc 16 A) < c - 100) else if c < 300 then decide (c - 200 < nI (gpc 16 A)) else decide (nI (gpc 16 A) = c - 300)
def ew (T : Int32 → Bool) (c : Int32) (st : List Bool) : List Bool :=
  if c = -1 then (match st with | a :: r => (!a) :: r | [] => [])
  else if c = -2 then (match st with | a :: b :: r => (b && a) :: r | _ => [])
  else if c = -3 then (match st with | a :: b :: r => (b || a) :: r | _ => [])
  else T c :: st
def ev (T : Int32 → Bool) (f : Nat → Int32) (i : Nat) : Nat → List Bool
  | 0 => []
  | n + 1 => ew T (f (i + n)) (ev T f i n)
theorem gdep_pre {f : Nat → Int32} {i n d : Nat} (h : gdep f i (n + 1) = some d) : ∃ d', gdep f i n = some d' := by
  unfold gdep at h
  cases e : gdep f i n with
  | none => rw [e] at h; exact absurd h (by simp)
  | some d' => exact ⟨d', rfl⟩
theorem ev_len {T : Int32 → Bool} {f : Nat → Int32} {i : Nat} : ∀ {n d : Nat}, gdep f i n = some d → (ev T f i n).length = d ∧ d ≤ 20 := by
  intro n
  induction n with
  | zero => intro d h; unfold gdep at h; unfold ev; simp at h; simp [← h]
  | succ n ih =>
    intro d h
    obtain ⟨d', e⟩ := gdep_pre h
    obtain ⟨l, l2⟩ := ih e
    unfold gdep at h
    rw [e] at h
    simp only [Option.bind_some] at h
    unfold ev ew
    generalize ev T f i n = st at l ⊢
    by_cases c1 : f (i + n) = -1
    · rw [if_pos c1] at h ⊢
      by_cases q : 1 ≤ d'
      · rw [if_pos q, Option.some_inj] at h
        match st, l with
        | a :: r, l => exact ⟨by rw [← h]; exact l, by omega⟩
        | [], l => simp at l; omega
      · rw [if_neg q] at h; exact absurd h (by simp)
    · rw [if_neg c1] at h ⊢
      by_cases c2 : f (i + n) = -2
      · rw [if_pos (Or.inl c2)] at h
        rw [if_pos c2]
        by_cases q : 2 ≤ d'
        · rw [if_pos q, Option.some_inj] at h
          match st, l with
          | a :: b :: r, l => exact ⟨by simp at l ⊢; omega, by omega⟩
          | [a], l => simp at l; omega
          | [], l => simp at l; omega
        · rw [if_neg q] at h; exact absurd h (by simp)
      · rw [if_neg c2]
        by_cases c3 : f (i + n) = -3
        · rw [if_pos (Or.inr c3)] at h
          rw [if_pos c3]
          by_cases q : 2 ≤ d'
          · rw [if_pos q, Option.some_inj] at h
            match st, l with
            | a :: b :: r, l => exact ⟨by simp at l ⊢; omega, by omega⟩
            | [a], l => simp at l; omega
            | [], l => simp at l; omega
          · rw [if_neg q] at h; exact absurd h (by simp)
        · rw [if_neg (by rintro (z | z); exact c2 z; exact c3 z)] at h
          rw [if_neg c3]
          by_cases q : d' < 20
          · rw [if_pos q, Option.some_inj] at h
            exact ⟨by simp [l, h], by omega⟩
          · rw [if_neg q] at h; exact absurd h (by simp)
/-- what stands ahead of a sign -/
theorem ev_step {f : Nat → Int32} {i n d : Nat} (h : gdep f i (n + 1) = some d) {T : Int32 → Bool} : (f (i + n) = -1 ∧ ∃ a r, ev T f i n = a :: r) ∨ (¬ f (i + n) = -1 ∧ (f (i + n) = -2 ∨ f (i + n) = -3) ∧ ∃ a b r, ev T f i n = a :: b :: r) ∨ (¬ f (i + n) = -1 ∧ ¬ f (i + n) = -2 ∧ ¬ f (i + n) = -3 ∧ (ev T f i n).length < 20) := by
  obtain ⟨d', e⟩ := gdep_pre h
  obtain ⟨l, l2⟩ := ev_len (T := T) e
  unfold gdep at h
  rw [e] at h
  simp only [Option.bind_some] at h
  generalize ev T f i n = st at l ⊢
  by_cases c1 : f (i + n) = -1
  · rw [if_pos c1] at h
    refine Or.inl ⟨c1, ?_⟩
    by_cases q : 1 ≤ d'
    · match st, l with
      | a :: r, l => exact ⟨a, r, rfl⟩
      | [], l => simp at l; omega
    · rw [if_neg q] at h; exact absurd h (by simp)
  · rw [if_neg c1] at h
    by_cases c2 : f (i + n) = -2 ∨ f (i + n) = -3
    · rw [if_pos c2] at h
      refine Or.inr (Or.inl ⟨c1, c2, ?_⟩)
      by_cases q : 2 ≤ d'
      · match st, l with
        | a :: b :: r, l => exact ⟨a, b, r, rfl⟩
        | [a], l => simp at l; omega
        | [], l => simp at l; omega
      · rw [if_neg q] at h; exact absurd h (by simp)
    · rw [if_neg c2] at h
      refine Or.inr (Or.inr ⟨c1, fun z => c2 (Or.inl z), fun z => c2 (Or.inr z), ?_⟩)
      by_cases q : d' < 20
      · omega
      · rw [if_neg q] at h; exact absurd h (by simp)
theorem gdep_le {f : Nat → Int32} {i : Nat} : ∀ {n d : Nat}, gdep f i n = some d → ∀ m, m ≤ n → ∃ d', gdep f i m = some d' := by
  intro n
  induction n with
  | zero => intro d h m hm; rw [show m = 0 by omega]; exact ⟨d, h⟩
  | succ n ih =>
    intro d h m hm
    by_cases e : m = n + 1
    · rw [e]; exact ⟨d, h⟩
    · obtain ⟨d', h'⟩ := gdep_pre h
      exact ih h' m (by omega)
def hd (st : List Bool) : Bool := match st with
  | b :: _ => b
  | [] => false
def hold (I : gIt) (P A s k : Nat) : Bool := if gEnd (I (16 + 6 * s)) (k + 1) - gEnd (I (16 + 6 * s)) k = 0 then true else hd (ev (tru I P A) (I (19 + 6 * s)) (gEnd (I (16 + 6 * s)) k) (gEnd (I (16 + 6 * s)) (k + 1) - gEnd (I (16 + 6 * s)) k))
/-- the first for whom p, from k on, of d -/
def frs (p : Nat → Bool) : Nat → Nat → Nat
  | 0, k => k
  | d + 1, k => if p k then k else frs p d (k + 1)
theorem frs_le (p : Nat → Bool) : ∀ d k, k ≤ frs p d k ∧ frs p d k ≤ k + d := by
  intro d
  induction d with
  | zero => intro k; unfold frs; omega
  | succ d ih =>
    intro k
    unfold frs
    by_cases h : p k = true
    · rw [if_pos h]; omega
    · rw [if_neg h]
      have := ih (k + 1)
      omega
def gv1 (each : Nat) (st : (Nat → Nat) × Nat) (o : Nat) : (Nat → Nat) × Nat := (fun x => if x = o then st.1 o + min each st.2 else st.1 x, st.2 - min each st.2)
def gv (S each : Nat) : Nat → (Nat → Nat) × Nat → (Nat → Nat) × Nat
  | 0, st => st
  | k + 1, st => if S.testBit k then gv1 each (gv S each k st) k else gv S each k st
theorem gv_up {S each P : Nat} (st : (Nat → Nat) × Nat) (hS : ∀ o, P ≤ o → S.testBit o = false) : ∀ d, gv S each (P + d) st = gv S each P st := by
  intro d
  induction d with
  | zero => rfl
  | succ d ih =>
    show (if S.testBit (P + d) then _ else _) = _
    rw [hS (P + d) (by omega)]
    exact ih
def tkS (I : gIt) (P A s y : Nat) : Nat := if (I (17 + 6 * s) y).toNatClampNeg < 16 then A &&& 2 ^ (I (17 + 6 * s) y).toNatClampNeg else cs I P A ((I (17 + 6 * s) y).toNatClampNeg - 16)
def tkE (I : gIt) (P A s y : Nat) : Nat := (I (14 + 6 * s) 5).toNatClampNeg / (I (18 + 6 * s) y).toNatClampNeg / gpc 16 (tkS I P A s y)
/-- the shares from a on, n of them -/
def gsh (I : gIt) (P A s a : Nat) : Nat → (Nat → Nat) × Nat → (Nat → Nat) × Nat
  | 0, st => st
  | n + 1, st => gv (tkS I P A s (a + n)) (tkE I P A s (a + n)) 16 (gsh I P A s a n st)
def fallOf (I : gIt) (P A s : Nat) : (Nat → Nat) × Nat :=
  let k := frs (hold I P A s) (I (14 + 6 * s) 8).toNatClampNeg 0
  if k = (I (14 + 6 * s) 8).toNatClampNeg then (fun _ => 0, (I (14 + 6 * s) 5).toNatClampNeg)
  else gsh I P A s (gEnd (I (15 + 6 * s)) k) (gEnd (I (15 + 6 * s)) (k + 1) - gEnd (I (15 + 6 * s)) k) (fun _ => 0, (I (14 + 6 * s) 5).toNatClampNeg)
/-- nothing more is given than there is -/
def gbd (F : Nat) (st : (Nat → Nat) × Nat) : Prop := ∀ o, st.1 o + st.2 ≤ F
theorem gbd_1 {F each : Nat} {st : (Nat → Nat) × Nat} (h : gbd F st) (o : Nat) : gbd F (gv1 each st o) := by
  intro x
  unfold gv1
  dsimp only
  have h1 := h x
  have h2 := h o
  by_cases e : x = o
  · rw [if_pos e]; omega
  · rw [if_neg e]; omega
theorem gbd_v {F S each : Nat} {st : (Nat → Nat) × Nat} (h : gbd F st) : ∀ k, gbd F (gv S each k st) := by
  intro k
  induction k with
  | zero => exact h
  | succ k ih =>
    unfold gv
    by_cases c : S.testBit k = true
    · rw [if_pos c]; exact gbd_1 ih k
    · rw [if_neg c]; exact ih
theorem gbd_s {I : gIt} {P A s a F : Nat} {st : (Nat → Nat) × Nat} (h : gbd F st) : ∀ n, gbd F (gsh I P A s a n st) := by
  intro n
  induction n with
  | zero => exact h
  | succ n ih => exact gbd_v ih 16
theorem gv_none {each : Nat} (st : (Nat → Nat) × Nat) : ∀ k, gv 0 each k st = st := by
  intro k
  induction k with
  | zero => rfl
  | succ k ih =>
    unfold gv
    rw [Nat.zero_testBit]
    exact ih
theorem fallOf_bd (I : gIt) (P A s : Nat) : gbd (I (14 + 6 * s) 5).toNatClampNeg (fallOf I P A s) := by
  unfold fallOf
  dsimp only
  have h0 : gbd (I (14 + 6 * s) 5).toNatClampNeg ((fun _ => 0 : Nat → Nat), (I (14 + 6 * s) 5).toNatClampNeg) := fun o => by dsimp only; omega
  by_cases c : frs (hold I P A s) (I (14 + 6 * s) 8).toNatClampNeg 0 = (I (14 + 6 * s) 8).toNatClampNeg
  · rw [if_pos c]; exact h0
  · rw [if_neg c]; exact gbd_s h0 _
theorem fallOf_k {I I' : gIt} (h : gkeep I I') {s : Nat} (hs : s < 10) (P A : Nat) : fallOf I' P A s = fallOf I P A s := by
  have e3 := h.1 3 (by unfold gco; omega)
  have e4 := h.1 4 (by unfold gco; omega)
  have e14 := h.1 (14 + 6 * s) (by unfold gco; omega)
  have e15 := h.1 (15 + 6 * s) (by unfold gco; omega)
  have e16 := h.1 (16 + 6 * s) (by unfold gco; omega)
  have e17 := h.1 (17 + 6 * s) (by unfold gco; omega)
  have e18 := h.1 (18 + 6 * s) (by unfold gco; omega)
  have e19 := h.1 (19 + 6 * s) (by unfold gco; omega)
  have ec : ∀ q, cs I' P A q = cs I P A q := fun q => by unfold cs chd thr; rw [e3, e4]
  have et : tru I' P A = tru I P A := by funext c; unfold tru; rw [ec]
  have eh : hold I' P A s = hold I P A s := by funext k; unfold hold; rw [et, e16, e19]
  have es : ∀ y, tkS I' P A s y = tkS I P A s y := fun y => by unfold tkS; rw [e17, ec]
  have ee : ∀ y, tkE I' P A s y = tkE I P A s y := fun y => by unfold tkE; rw [e14, e18, es]
  have eg : ∀ a n st, gsh I' P A s a n st = gsh I P A s a n st := by
    intro a n st
    induction n with
    | zero => rfl
    | succ n ih => unfold gsh; rw [ih, es, ee]
  unfold fallOf
  dsimp only
  rw [eh, e14, e15, eg]
theorem nmS_k {I I' : gIt} (hk : gkeep I I') {s : Nat} (hs : s < 10) (P : Nat) (t : Int32) : nmS I' P t s = nmS I P t s := by
  unfold nmS
  apply gM_cg
  intro o ho
  unfold NMb thr chd thr
  rw [gk_set hk hs, hk.1 3 (by unfold gco; omega), hk.1 4 (by unfold gco; omega)]
