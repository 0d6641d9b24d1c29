/-! ===== all subsets of a set, one behind another ===== -/
theorem and_2 (x y : Nat) {b c : Nat} (hb : b < 2) (hc : c < 2) : (2 * x + b) &&& (2 * y + c) = 2 * (x &&& y) + b * c := by
  have q := @Nat.and_mod_two_eq_one (2 * x + b) (2 * y + c)
  have hbc : b * c < 2 := by
    rcases (by omega : b = 0 ∨ b = 1) with rfl | rfl
    · rw [Nat.zero_mul]; omega
    · rw [Nat.one_mul]; exact hc
  apply dm2
  · rw [Nat.and_div_two, show (2 * x + b) / 2 = x by omega, show (2 * y + c) / 2 = y by omega, show (2 * (x &&& y) + b * c) / 2 = x &&& y by omega]
  · rw [show (2 * (x &&& y) + b * c) % 2 = b * c by omega]
    rcases (by omega : b = 0 ∨ b = 1) with rfl | rfl
    · rw [Nat.zero_mul]; omega
    · rw [Nat.one_mul]; omega
/-- the j-th subset of D, by D's first k bits -/
def dep : Nat → Nat → Nat → Nat
  | 0, _, _ => 0
  | k + 1, j, D => if D % 2 = 1 then 2 * dep k (j / 2) (D / 2) + j % 2 else 2 * dep k j (D / 2)
theorem dep_le (k : Nat) : ∀ j D, dep k j D ≤ D := by
  induction k with
  | zero => intro j D; exact Nat.zero_le _
  | succ k ih =>
    intro j D
    unfold dep
    by_cases c : D % 2 = 1
    · rw [if_pos c]
      have := ih (j / 2) (D / 2)
      omega
    · rw [if_neg c]
      have := ih j (D / 2)
      omega
theorem dep_B (k : Nat) : ∀ j D, D < 2 ^ k → (2 ^ k - 1 - D + dep k j D) &&& D = dep k j D := by
  induction k with
  | zero => intro j D hD; unfold dep; rw [show D = 0 by omega]; rfl
  | succ k ih =>
    intro j D hD
    have hD2 : D / 2 < 2 ^ k := by rw [Nat.pow_succ] at hD; omega
    unfold dep
    by_cases c : D % 2 = 1
    · rw [if_pos c]
      have i := ih (j / 2) (D / 2) hD2
      have e1 : 2 ^ (k + 1) - 1 - D + (2 * dep k (j / 2) (D / 2) + j % 2) = 2 * (2 ^ k - 1 - D / 2 + dep k (j / 2) (D / 2)) + j % 2 := by rw [Nat.pow_succ]; omega
      have e2 : D = 2 * (D / 2) + 1 := by omega
      rw [e1]
      conv => lhs; rhs; rw [e2]
      rw [and_2 _ _ (by omega) (by omega), i]
      omega
    · rw [if_neg c]
      have i := ih j (D / 2) hD2
      have e1 : 2 ^ (k + 1) - 1 - D + 2 * dep k j (D / 2) = 2 * (2 ^ k - 1 - D / 2 + dep k j (D / 2)) + 1 := by rw [Nat.pow_succ]; omega
      have e2 : D = 2 * (D / 2) + 0 := by omega
      rw [e1]
      conv => lhs; rhs; rw [e2]
      rw [and_2 _ _ (by omega) (by omega), i, Nat.mul_zero, Nat.add_zero]
theorem dep_A (k : Nat) : ∀ j D, D < 2 ^ k → (2 ^ k + dep k j D - D) &&& D = dep k (j + 1) D := by
  induction k with
  | zero => intro j D hD; unfold dep; rw [show D = 0 by omega]; rfl
  | succ k ih =>
    intro j D hD
    have hD2 : D / 2 < 2 ^ k := by rw [Nat.pow_succ] at hD; omega
    unfold dep
    by_cases c : D % 2 = 1
    · rw [if_pos c, if_pos c]
      have e2 : D = 2 * (D / 2) + 1 := by omega
      have hl := dep_le k (j / 2) (D / 2)
      by_cases c2 : j % 2 = 1
      · have i := ih (j / 2) (D / 2) hD2
        have e1 : 2 ^ (k + 1) + (2 * dep k (j / 2) (D / 2) + j % 2) - D = 2 * (2 ^ k + dep k (j / 2) (D / 2) - D / 2) + 0 := by rw [Nat.pow_succ]; omega
        rw [e1]
        conv => lhs; rhs; rw [e2]
        rw [and_2 _ _ (by omega) (by omega), i, show (j + 1) / 2 = j / 2 + 1 by omega, show (j + 1) % 2 = 0 by omega]
      · have i := dep_B k (j / 2) (D / 2) hD2
        have e1 : 2 ^ (k + 1) + (2 * dep k (j / 2) (D / 2) + j % 2) - D = 2 * (2 ^ k - 1 - D / 2 + dep k (j / 2) (D / 2)) + 1 := by rw [Nat.pow_succ]; omega
        rw [e1]
        conv => lhs; rhs; rw [e2]
        rw [and_2 _ _ (by omega) (by omega), i, show (j + 1) / 2 = j / 2 by omega, show (j + 1) % 2 = 1 by omega]
    · rw [if_neg c, if_neg c]
      have i := ih j (D / 2) hD2
      have hl := dep_le k j (D / 2)
      have e2 : D = 2 * (D / 2) + 0 := by omega
      have e1 : 2 ^ (k + 1) + 2 * dep k j (D / 2) - D = 2 * (2 ^ k + dep k j (D / 2) - D / 2) + 0 := by rw [Nat.pow_succ]; omega
      rw [e1]
      conv => lhs; rhs; rw [e2]
      rw [and_2 _ _ (by omega) (by omega), i, Nat.mul_zero, Nat.add_zero]
theorem dep_z (k : Nat) : ∀ j D, dep k j D = 0 ↔ j % 2 ^ gpc k D = 0 := by
  induction k with
  | zero => intro j D; unfold dep gpc; rw [Nat.pow_zero, Nat.mod_one]
  | succ k ih =>
    intro j D
    unfold dep gpc
    by_cases c : D % 2 = 1
    · rw [if_pos c, c, Nat.add_comm 1, Nat.pow_succ]
      have i := ih (j / 2) (D / 2)
      have hm := Nat.mod_mul (a := 2) (b := 2 ^ gpc k (D / 2)) (x := j)
      rw [Nat.mul_comm (2 ^ gpc k (D / 2)) 2, hm]
      constructor
      · intro h
        have h1 : dep k (j / 2) (D / 2) = 0 := by omega
        rw [i] at h1
        rw [h1]
        omega
      · intro h
        have h1 : j / 2 % 2 ^ gpc k (D / 2) = 0 := by omega
        have := i.mpr h1
        omega
    · rw [if_neg c, show D % 2 = 0 by omega, Nat.zero_add]
      have i := ih j (D / 2)
      rw [← i]
      omega
theorem gpc_32 {D : Nat} (h : D < 65536) : gpc 32 D = gpc 16 D := by
  have := gpc_split 0 (b := D) 16 D h 16
  rw [Nat.mul_zero, Nat.zero_add, gpc_0, Nat.add_zero] at this
  exact this
theorem nI_w (a : Nat) : nI (2 ^ 32 + a) = nI a := by
  apply Int32.toBitVec_inj.mp
  show BitVec.ofNat 32 (2 ^ 32 + a) = BitVec.ofNat 32 a
  apply BitVec.eq_of_toNat_eq
  rw [BitVec.toNat_ofNat, BitVec.toNat_ofNat]
  omega
theorem dep_nx (j : Nat) {D : Nat} (h : D < 65536) : (nI (dep 32 j D) - nI D) &&& nI D = nI (dep 32 (j + 1) D) := by
  have hl := dep_le 32 j D
  rw [← nI_w (dep 32 j D), pk_sub (by omega), nI_and, dep_A 32 j D (by omega)]
theorem dep_0 (D : Nat) : dep 32 0 D = 0 := (dep_z 32 0 D).mpr (Nat.zero_mod _)
/-! sums of numbers -/
def sN (f : Nat → Nat) : Nat → Nat
  | 0 => 0
  | n + 1 => sN f n + f n
theorem sN_le {f : Nat → Nat} {B : Nat} (h : ∀ i, f i ≤ B) : ∀ n, sN f n ≤ B * n := by
  intro n
  induction n with
  | zero => exact Nat.le_refl _
  | succ n ih =>
    unfold sN
    have := h n
    rw [Nat.mul_succ]
    omega
theorem sN_add (f g : Nat → Nat) : ∀ n, sN (fun i => f i + g i) n = sN f n + sN g n := by
  intro n
  induction n with
  | zero => rfl
  | succ n ih => unfold sN; rw [ih]; omega
theorem sN_0 {f : Nat → Nat} {n : Nat} (h : ∀ i, i < n → f i = 0) : sN f n = 0 := by
  induction n with
  | zero => rfl
  | succ n ih => unfold sN; rw [ih (fun i hi => h i (by omega)), h n (by omega)]
theorem sN_cg {f g : Nat → Nat} {n : Nat} (h : ∀ i, i < n → f i = g i) : sN f n = sN g n := by
  induction n with
  | zero => rfl
  | succ n ih => unfold sN; rw [ih (fun i hi => h i (by omega)), h n (by omega)]
theorem sN_swap (F : Nat → Nat → Nat) (N : Nat) : ∀ K, sN (fun k => sN (fun x => F x k) N) K = sN (fun x => sN (fun k => F x k) K) N := by
  intro K
  induction K with
  | zero => exact (sN_0 (fun i _ => rfl)).symm
  | succ K ih =>
    show sN (fun k => sN (fun x => F x k) N) K + sN (fun x => F x K) N = sN (fun x => sN (fun k => F x k) K + F x K) N
    rw [ih, sN_add]
theorem sN_one {v a : Nat} : ∀ {n : Nat}, a < n → sN (fun k => if a = k then v else 0) n = v := by
  intro n
  induction n with
  | zero => intro h; omega
  | succ n ih =>
    intro h
    unfold sN
    by_cases e : a = n
    · rw [if_pos e, sN_0 (fun i hi => if_neg (by omega)), Nat.zero_add]
    · rw [if_neg e, ih (by omega), Nat.add_zero]
