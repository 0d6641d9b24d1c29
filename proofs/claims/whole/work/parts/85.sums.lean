/-! ===== sums; the living; weights ===== -/
def sm (f : Nat → Int64) : Nat → Int64
  | 0 => 0
  | n + 1 => sm f n + f n
theorem l4 (a b c d : Int64) : a + b + (c + d) = a + c + (b + d) := by
  rw [Int64.add_assoc, Int64.add_assoc, ← Int64.add_assoc b c d, Int64.add_comm b c, Int64.add_assoc c b d]
theorem sm_add (f g : Nat → Int64) : ∀ n, sm (fun i => f i + g i) n = sm f n + sm g n := by
  intro n
  induction n with
  | zero => rfl
  | succ n ih => unfold sm; rw [ih, l4]
theorem sm_cg {f g : Nat → Int64} {n : Nat} (h : ∀ i, i < n → f i = g i) : sm f n = sm g n := by
  induction n with
  | zero => rfl
  | succ n ih => unfold sm; rw [ih (fun i hi => h i (by omega)), h n (by omega)]
theorem sm_0 {f : Nat → Int64} {n : Nat} (h : ∀ i, i < n → f i = 0) : sm f n = 0 := by
  induction n with
  | zero => rfl
  | succ n ih => unfold sm; rw [ih (fun i hi => h i (by omega)), h n (by omega), Int64.add_zero]
theorem sm_up {f : Nat → Int64} {a : Nat} (h : ∀ i, a ≤ i → f i = 0) : ∀ d, sm f (a + d) = sm f a := by
  intro d
  induction d with
  | zero => rfl
  | succ d ih =>
    show sm f (a + d) + f (a + d) = _
    rw [ih, h _ (by omega), Int64.add_zero]
theorem sm_swap (F : Nat → Nat → Int64) (N : Nat) : ∀ K, sm (fun k => sm (fun x => F x k) N) K = sm (fun x => sm (fun k => F x k) K) N := by
  intro K
  induction K with
  | zero => exact (sm_0 (fun i _ => rfl)).symm
  | succ K ih =>
    show sm (fun k => sm (fun x => F x k) N) K + sm (fun x => F x K) N = sm (fun x => sm (fun k => F x k) K + F x K) N
    rw [ih, sm_add]
def lcd (I : gIt) (P : Nat) (t : Int32) (s o : Nat) : Bool := (nmS I P t s).testBit o && !(ded I t o)
def lvL (I : gIt) (P : Nat) (t : Int32) (s : Nat) : Nat → List Nat
  | 0 => []
  | k + 1 => if lcd I P t s k then lvL I P t s k ++ [k] else lvL I P t s k
def agN (I : gIt) (y : Int32) (o : Nat) : Nat := (y - I 2 o).toNatClampNeg
def hsN (I : gIt) (tb : Nat) (y : Int32) (o : Nat) : Nat := (lvs (I 10) tb (agN I y o)).toNatClampNeg
def whN (I : gIt) (tb : Nat) (y : Int32) (T : Nat) (l : List Nat) : Nat := l.foldl (fun a o => a * hsN I tb y o) (hsN I tb y T)
def pf (l : List Nat) (i : Nat) : Nat := l[i]?.getD 0
theorem pf_l {l : List Nat} {a i : Nat} (h : i < l.length) : pf (l ++ [a]) i = pf l i := by
  unfold pf
  rw [List.getElem?_append_left h]
theorem pf_r {l : List Nat} {a : Nat} : pf (l ++ [a]) l.length = a := by
  unfold pf
  simp
theorem whN_app (I : gIt) (tb : Nat) (y : Int32) (T : Nat) (l : List Nat) (a : Nat) : whN I tb y T (l ++ [a]) = whN I tb y T l * hsN I tb y a := by
  unfold whN
  rw [List.foldl_append]
  rfl
/-- all that is said of a reckoning ahead of it -/
def rkH (I : gIt) (P : Nat) (t y : Int32) (s tb T : Nat) : Prop := ctx I P ∧ (∀ k i, k < 4 → i < 12 → iTab1 I k i) ∧ (t.toInt ≤ y.toInt ∧ y.toInt ≤ 1999) ∧ s < 10 ∧ iSet1 I P s ∧ I (14 + 6 * s) 6 = nI T ∧ T < P ∧ I (14 + 6 * s) 7 = nI tb ∧ tb < 4 ∧ ∃ i, i ≤ 20 ∧ I 9 1 = nI i ∧ I 149 8 = nI i
section Rk
variable {I : gIt} {P : Nat} {t y : Int32} {s tb T : Nat}
theorem ag_of (h : rkH I P t y s tb T) {o : Nat} (ho : thr I P t o = true) : y - I 2 o = nI (agN I y o) ∧ agN I y o ≤ 399 := by
  obtain ⟨c, -, ⟨h1, h2⟩, -⟩ := h
  unfold thr at ho
  rw [decide_eq_true_eq] at ho
  have p := (c.2.2.2.1 o ho.1).2.1
  obtain ⟨a, ha, e⟩ := age_of (x := I 2 o) (y := y) p.1 (by omega) h2
  unfold agN
  rw [e, nI_clamp (by omega)]
  exact ⟨rfl, ha⟩
theorem hs_of (h : rkH I P t y s tb T) (o : Nat) : lvs (I 10) tb (agN I y o) = nI (hsN I tb y o) ∧ hsN I tb y o ≤ 200 := by
  obtain ⟨-, h2, -, -, -, -, -, -, h9, -⟩ := h
  obtain ⟨n, hn, e⟩ := lvs_bd h2 h9 (agN I y o)
  unfold hsN
  rw [e, nI_clamp (by omega)]
  exact ⟨rfl, hn⟩
theorem whN_le (h : rkH I P t y s tb T) : ∀ l : List Nat, whN I tb y T l ≤ 200 * 200 ^ l.length := by
  intro l
  have key : ∀ (l : List Nat) (a : Nat), l.foldl (fun a o => a * hsN I tb y o) a ≤ a * 200 ^ l.length := by
    intro l
    induction l with
    | nil => intro a; simp
    | cons o l ih =>
      intro a
      rw [List.foldl_cons, List.length_cons, Nat.pow_succ, Nat.mul_comm (200 ^ l.length) 200, ← Nat.mul_assoc]
      exact Nat.le_trans (ih _) (Nat.mul_le_mul_right _ (Nat.mul_le_mul_left _ (hs_of h o).2))
  exact Nat.le_trans (key l _) (Nat.mul_le_mul_right _ (hs_of h T).2)
theorem whN_lt (h : rkH I P t y s tb T) {l : List Nat} (hl : l.length ≤ 4) : whN I tb y T l < 2 ^ 60 := by
  have h1 := whN_le h l
  have h2 : 200 ^ l.length ≤ 200 ^ 4 := Nat.pow_le_pow_right (by omega) hl
  have h3 : 200 * 200 ^ l.length ≤ 200 * 200 ^ 4 := Nat.mul_le_mul_left _ h2
  omega
def gdk (I : gIt) (P : Nat) (t y : Int32) (s tb T k : Nat) : Prop := (lvL I P t s k).length ≤ 4 ∧ 0 < whN I tb y T (lvL I P t s k)
theorem gdk_1 {k : Nat} (h : gdk I P t y s tb T (k + 1)) : gdk I P t y s tb T k := by
  obtain ⟨h1, h2⟩ := h
  unfold lvL at h1 h2
  by_cases c : lcd I P t s k = true
  · rw [if_pos c] at h1 h2
    rw [whN_app] at h2
    rw [List.length_append] at h1
    refine ⟨by omega, ?_⟩
    rcases Nat.eq_zero_or_pos (whN I tb y T (lvL I P t s k)) with z | z
    · rw [z, Nat.zero_mul] at h2; omega
    · exact z
  · rw [if_neg c] at h1 h2
    exact ⟨h1, h2⟩
theorem gdk_m {k : Nat} : ∀ d, gdk I P t y s tb T (k + d) → gdk I P t y s tb T k := by
  intro d
  induction d with
  | zero => exact id
  | succ d ih => exact fun q => ih (gdk_1 q)
theorem lvL_mem : ∀ k i, i < (lvL I P t s k).length → pf (lvL I P t s k) i < k ∧ lcd I P t s (pf (lvL I P t s k) i) = true := by
  intro k
  induction k with
  | zero => intro i hi; exact absurd hi (Nat.not_lt_zero i)
  | succ k ih =>
    intro i hi
    unfold lvL at hi ⊢
    by_cases c : lcd I P t s k = true
    · rw [if_pos c] at hi ⊢
      rw [List.length_append] at hi
      by_cases e : i < (lvL I P t s k).length
      · rw [pf_l e]
        have := ih i e
        exact ⟨by omega, this.2⟩
      · have e2 : i = (lvL I P t s k).length := by
          have : [k].length = 1 := rfl
          omega
        rw [e2, pf_r]
        exact ⟨by omega, c⟩
    · rw [if_neg c] at hi ⊢
      have := ih i hi
      exact ⟨by omega, this.2⟩
theorem lcd_thr {o : Nat} (ho : o < 16) (h : lcd I P t s o = true) : thr I P t o = true := by
  unfold lcd at h
  rw [Bool.and_eq_true] at h
  exact nmS_thr ho h.1
/-- who is alive in a set of the living -/
def aoB (p : Nat → Nat) (x : Nat) : Nat → Nat
  | 0 => 0
  | i + 1 => aoB p x i ||| if x.testBit i then 2 ^ p i else 0
theorem aoB_tb (p : Nat → Nat) (x o : Nat) : ∀ n, (aoB p x n).testBit o = true → ∃ i, i < n ∧ o = p i := by
  intro n
  induction n with
  | zero => intro h; unfold aoB at h; rw [Nat.zero_testBit] at h; exact absurd h (by decide)
  | succ n ih =>
    intro h
    unfold aoB at h
    by_cases c : x.testBit n = true
    · rw [if_pos c, tb_set] at h
      rcases h with h | h
      · obtain ⟨i, hi, e⟩ := ih h
        exact ⟨i, by omega, e⟩
      · exact ⟨n, by omega, h⟩
    · rw [if_neg c, Nat.or_zero] at h
      obtain ⟨i, hi, e⟩ := ih h
      exact ⟨i, by omega, e⟩
theorem aoB_lt (p : Nat → Nat) (x : Nat) : ∀ n, (∀ i, i < n → p i < 16) → aoB p x n < 65536 := by
  intro n
  induction n with
  | zero => intro _; exact (by decide : 0 < 65536)
  | succ n ih =>
    intro h
    unfold aoB
    by_cases c : x.testBit n = true
    · rw [if_pos c]; exact or_lt16 (ih (fun i hi => h i (by omega))) (h n (by omega))
    · rw [if_neg c, Nat.or_zero]; exact ih (fun i hi => h i (by omega))
theorem ao_alv (hP : P ≤ 16) (x : Nat) : alv I P t (aoB (pf (lvL I P t s P)) x (lvL I P t s P).length) := by
  have hm : ∀ i, i < (lvL I P t s P).length → pf (lvL I P t s P) i < 16 := fun i hi => by have := (lvL_mem P i hi).1; omega
  refine ⟨aoB_lt _ _ _ hm, fun o ho h => ?_⟩
  obtain ⟨i, hi, e⟩ := aoB_tb _ _ _ _ h
  rw [e]
  exact lcd_thr (hm i hi) (lvL_mem P i hi).2
/-- a branch's weight, of its first n factors -/
def wtB (I : gIt) (tb : Nat) (y : Int32) (T : Nat) (p : Nat → Nat) (x k : Nat) : Nat → Int64
  | 0 => Int32.toInt64 (lvs (I 10) tb (agN I y T + k) - lvs (I 10) tb (agN I y T + k + 1))
  | i + 1 => wtB I tb y T p x k i * (if x.testBit i then Int32.toInt64 (lvs (I 10) tb (agN I y (p i) + k + 1)) else Int32.toInt64 (lvs (I 10) tb (agN I y (p i)) - lvs (I 10) tb (agN I y (p i) + k + 1)))
theorem wtB_0 (I : gIt) (tb : Nat) (y : Int32) (T : Nat) (p : Nat → Nat) (x : Nat) {k : Nat} (hk : 110 ≤ k) : ∀ n, wtB I tb y T p x k n = 0 := by
  intro n
  induction n with
  | zero => unfold wtB; rw [lvs_0 _ _ (by omega), lvs_0 _ _ (by omega)]; rfl
  | succ n ih => unfold wtB; rw [ih, Int64.zero_mul]
/-- what a set of the living brings to o -/
def gfA (I : gIt) (P : Nat) (t : Int32) (s o x : Nat) : Nat := (fallOf I P (aoB (pf (lvL I P t s P)) x (lvL I P t s P).length) s).1 o
def wtA (I : gIt) (P : Nat) (t y : Int32) (s tb T x k : Nat) : Int64 := wtB I tb y T (pf (lvL I P t s P)) x k (lvL I P t s P).length
def hopV (I : gIt) (P : Nat) (t y : Int32) (s tb T o : Nat) : Int64 := sm (fun k => sm (fun x => if 0 < gfA I P t s o x then wtA I P t y s tb T x k else 0) (2 ^ (lvL I P t s P).length)) 110
def wgV (I : gIt) (P : Nat) (t y : Int32) (s tb T o k : Nat) : Int64 := sm (fun x => wtA I P t y s tb T x k * Int32.toInt64 (nI (gfA I P t s o x))) (2 ^ (lvL I P t s P).length)
def worV (I : gIt) (P : Nat) (t y : Int32) (s tb T o i n : Nat) : Int64 := sm (fun k => wgV I P t y s tb T o k / lN (whN I tb y T (lvL I P t s P)) * lN (dsc i (k + 1)) / 1000000) n
theorem hopV_400 (o : Nat) : sm (fun x => sm (fun k => if 0 < gfA I P t s o x then wtA I P t y s tb T x k else 0) 400) (2 ^ (lvL I P t s P).length) = hopV I P t y s tb T o := by
  unfold hopV
  rw [← sm_swap (fun x k => if 0 < gfA I P t s o x then wtA I P t y s tb T x k else 0) _ 400, show 400 = 110 + 290 from rfl, sm_up]
  intro k hk
  apply sm_0
  intro x _
  unfold wtA
  rw [wtB_0 _ _ _ _ _ _ hk]
  split <;> rfl
theorem worV_400 (o i : Nat) : worV I P t y s tb T o i 400 = worV I P t y s tb T o i 110 := by
  unfold worV
  rw [show 400 = 110 + 290 from rfl, sm_up]
  intro k hk
  have : wgV I P t y s tb T o k = 0 := by
    unfold wgV
    apply sm_0
    intro x _
    unfold wtA
    rw [wtB_0 _ _ _ _ _ _ hk, Int64.zero_mul]
  rw [this, Int64.zero_div, Int64.zero_mul, Int64.zero_div]
end Rk
